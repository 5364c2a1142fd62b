/-! ===== walks of the reference (by program) ===== -/
set_option maxHeartbeats 4000000 in
set_option maxRecDepth 100000 in
theorem m_Model_offers {X : z_X} (hX : z_ok X) {G : z_Gr} {a : Nat} (ha : g_Model G a) (p0 : Int32) (M : z_Mem) (b : z_Mem) (h : F_Model_offers a p0 M = some b) : z_Ct X yX12_offers cX12_offers 4 none ({ frames := 5, cells := 0, slots := 0, locals := 125 } : Room) [.ref a, .int p0] G M (fun o9 G9 M9 => G9 = G ∧ (o9, M9) = z_cvm b) := by
  refine z_enter hX (by decide) (Nat.le_of_ble_eq_true rfl) h (fun F B hR => ?_)
  have L9 : ∀ (nf9 : Nat), ∀ (v1 : Int32) (v2 : Int32) (M : z_Mem), z_K X F 4 0 0 G z_cvm b 0 0 9 [(0, .ref a), (1, .int v1), (2, .int v2)] [] M (F_Model_offers_L9 a nf9 v1 v2 M) := by
    intro nf9
    induction nf9 with
    | zero => intro v1 v2 M; exact zk_none
    | succ nf9 ih9 =>
      have J103 : ∀ (v1 : Int32) (v2 : Int32) (M : z_Mem), z_K X F 4 0 0 G z_cvm b 0 0 103 [(0, .ref a), (1, .int v1), (2, .int v2)] [] M (F_Model_offers_J103 a (F_Model_offers_L9 a nf9) v1 v2 M) := by
        intro v1 v2 M
        unfold F_Model_offers_J103
        refine zk_aload_n (pc := 103) B dX12_offers_103 0 rfl rfl ?_
        refine zk_iload_n (pc := 104) B dX12_offers_104 1 rfl rfl ?_
        refine zk_iconst (v := 0) (pc := 105) B dX12_offers_105 (by decide) ?_
        refine zk_iconst (v := 0) (pc := 106) B dX12_offers_106 (by decide) ?_
        refine zk_cvm (pc := 107) (k' := 0) (n' := 0) B rfl rfl (Nat.le_of_ble_eq_true rfl) (Nat.le_of_ble_eq_true rfl) (fun b hb => zr_V B hR kV_yX12_sets km_12_346 kx_12 (gModel_s ha) [.int v1, .int 0, .int 0] rfl rfl (Nat.le_of_ble_eq_true rfl) dX12_offers_107 (m_Model_sets hX ha v1 0 0 M b hb) ⟨Nat.le_of_ble_eq_true rfl, Nat.le_of_ble_eq_true rfl⟩ ⟨Nat.le_of_ble_eq_true rfl, Nat.le_of_ble_eq_true rfl⟩) (fun M15 => ?_)
        refine zk_aload_n (pc := 110) B dX12_offers_110 0 rfl rfl ?_
        refine zk_iload_n (pc := 111) B dX12_offers_111 1 rfl rfl ?_
        refine zk_bipush (v := 12) (pc := 112) B dX12_offers_112 (by decide) ?_
        refine zk_iload_n (pc := 114) B dX12_offers_114 2 rfl rfl ?_
        refine zk_cvm (pc := 115) (k' := 0) (n' := 0) B rfl rfl (Nat.le_of_ble_eq_true rfl) (Nat.le_of_ble_eq_true rfl) (fun b hb => zr_V B hR kV_yX12_sets km_12_346 kx_12 (gModel_s ha) [.int v1, .int 12, .int v2] rfl rfl (Nat.le_of_ble_eq_true rfl) dX12_offers_115 (m_Model_sets hX ha v1 12 v2 M15 b hb) ⟨Nat.le_of_ble_eq_true rfl, Nat.le_of_ble_eq_true rfl⟩ ⟨Nat.le_of_ble_eq_true rfl, Nat.le_of_ble_eq_true rfl⟩) (fun M16 => ?_)
        refine zk_aload_n (pc := 118) B dX12_offers_118 0 rfl rfl ?_
        refine zk_iload_n (pc := 119) B dX12_offers_119 1 rfl rfl ?_
        refine zk_bipush (v := 13) (pc := 120) B dX12_offers_120 (by decide) ?_
        refine zk_aload_n (pc := 122) B dX12_offers_122 0 rfl rfl ?_
        refine zk_geti (pc := 123) B kx_12 (gModel_s ha) 40 (by decide) kf_12_298 rfl dX12_offers_123 ?_
        refine zk_cvm (pc := 126) (k' := 0) (n' := 0) B rfl rfl (Nat.le_of_ble_eq_true rfl) (Nat.le_of_ble_eq_true rfl) (fun b hb => zr_V B hR kV_yX12_sets km_12_346 kx_12 (gModel_s ha) [.int v1, .int 13, .int (M16.1 a 40)] rfl rfl (Nat.le_of_ble_eq_true rfl) dX12_offers_126 (m_Model_sets hX ha v1 13 (M16.1 a 40) M16 b hb) ⟨Nat.le_of_ble_eq_true rfl, Nat.le_of_ble_eq_true rfl⟩ ⟨Nat.le_of_ble_eq_true rfl, Nat.le_of_ble_eq_true rfl⟩) (fun M17 => ?_)
        refine zk_aload_n (pc := 129) B dX12_offers_129 0 rfl rfl ?_
        refine zk_iload_n (pc := 130) B dX12_offers_130 1 rfl rfl ?_
        refine zk_bipush (v := 14) (pc := 131) B dX12_offers_131 (by decide) ?_
        refine zk_aload_n (pc := 133) B dX12_offers_133 0 rfl rfl ?_
        refine zk_geti (pc := 134) B kx_12 (gModel_s ha) 41 (by decide) kf_12_314 rfl dX12_offers_134 ?_
        refine zk_cvm (pc := 137) (k' := 0) (n' := 0) B rfl rfl (Nat.le_of_ble_eq_true rfl) (Nat.le_of_ble_eq_true rfl) (fun b hb => zr_V B hR kV_yX12_sets km_12_346 kx_12 (gModel_s ha) [.int v1, .int 14, .int (M17.1 a 41)] rfl rfl (Nat.le_of_ble_eq_true rfl) dX12_offers_137 (m_Model_sets hX ha v1 14 (M17.1 a 41) M17 b hb) ⟨Nat.le_of_ble_eq_true rfl, Nat.le_of_ble_eq_true rfl⟩ ⟨Nat.le_of_ble_eq_true rfl, Nat.le_of_ble_eq_true rfl⟩) (fun M18 => ?_)
        refine zk_aload_n (pc := 140) B dX12_offers_140 0 rfl rfl ?_
        refine zk_iload_n (pc := 141) B dX12_offers_141 1 rfl rfl ?_
        refine zk_bipush (v := 15) (pc := 142) B dX12_offers_142 (by decide) ?_
        refine zk_aload_n (pc := 144) B dX12_offers_144 0 rfl rfl ?_
        refine zk_geti (pc := 145) B kx_12 (gModel_s ha) 42 (by decide) kf_12_317 rfl dX12_offers_145 ?_
        refine zk_cvm (pc := 148) (k' := 0) (n' := 0) B rfl rfl (Nat.le_of_ble_eq_true rfl) (Nat.le_of_ble_eq_true rfl) (fun b hb => zr_V B hR kV_yX12_sets km_12_346 kx_12 (gModel_s ha) [.int v1, .int 15, .int (M18.1 a 42)] rfl rfl (Nat.le_of_ble_eq_true rfl) dX12_offers_148 (m_Model_sets hX ha v1 15 (M18.1 a 42) M18 b hb) ⟨Nat.le_of_ble_eq_true rfl, Nat.le_of_ble_eq_true rfl⟩ ⟨Nat.le_of_ble_eq_true rfl, Nat.le_of_ble_eq_true rfl⟩) (fun M19 => ?_)
        refine zk_iinc (y := 1) (lf := fun x20 => [(2, .int x20), (0, .ref a), (1, .int v1)]) (pc := 151) B dX12_offers_151 2 rfl (by decide) (by decide) (fun _ => rfl) (fun x20 => ?_)
        refine zk_goto (tgt := 9) (pc := 154) B dX12_offers_154 (by decide) ?_
        refine zk_sub [1, 2, 0] rfl ?_
        exact ih9 v1 x20 M19
      have J32 : ∀ (v1 : Int32) (v2 : Int32) (s0 : Int32) (M : z_Mem), z_K X F 4 0 0 G z_cvm b 0 0 32 [(0, .ref a), (1, .int v1), (2, .int v2)] [.int s0] M (F_Model_offers_J32 a (F_Model_offers_L9 a nf9) v1 v2 s0 M) := by
        intro v1 v2 s0 M
        unfold F_Model_offers_J32
        refine zk_istore_n (loc' := [(3, .int s0), (0, .ref a), (1, .int v1), (2, .int v2)]) (pc := 32) B dX12_offers_32 rfl (by decide) rfl ?_
        refine zk_aload_n (pc := 33) B dX12_offers_33 1 rfl rfl ?_
        refine zk_iload_n (pc := 34) B dX12_offers_34 2 rfl rfl ?_
        refine zk_cpi (pc := 35) (k' := 0) (n' := 0) B rfl rfl (Nat.le_of_ble_eq_true rfl) (Nat.le_of_ble_eq_true rfl) (fun b hb => zr_V B hR kV_yX12_directOf km_12_280 kx_12 (gModel_s ha) [.int v1] rfl rfl (Nat.le_of_ble_eq_true rfl) dX12_offers_35 (m_Model_directOf hX ha v1 M b hb) ⟨Nat.le_of_ble_eq_true rfl, Nat.le_of_ble_eq_true rfl⟩ ⟨Nat.le_of_ble_eq_true rfl, Nat.le_of_ble_eq_true rfl⟩) (fun x5 _ => ?_)
        refine zk_iconst (v := (-1)) (pc := 38) B dX12_offers_38 (by decide) ?_
        refine zk_icmp_eq (tgt := 151) (pc := 39) B dX12_offers_39 (by decide) (fun _ => ?_) (fun _ => ?_)
        · refine zk_iinc (y := 1) (lf := fun x6 => [(2, .int x6), (3, .int s0), (0, .ref a), (1, .int v1)]) (pc := 151) B dX12_offers_151 3 rfl (by decide) (by decide) (fun _ => rfl) (fun x6 => ?_)
          refine zk_goto (tgt := 9) (pc := 154) B dX12_offers_154 (by decide) ?_
          refine zk_sub [2, 3, 0] rfl ?_
          exact ih9 v1 x6 M
        · refine zk_aload_n (pc := 42) B dX12_offers_42 1 rfl rfl ?_
          refine zk_iload_n (pc := 43) B dX12_offers_43 3 rfl rfl ?_
          refine zk_iload_n (pc := 44) B dX12_offers_44 2 rfl rfl ?_
          refine zk_cim (pc := 45) (k' := 0) (n' := 0) B rfl rfl (Nat.le_of_ble_eq_true rfl) (Nat.le_of_ble_eq_true rfl) (fun b hb => zr_V B hR kV_yX12_findsBest km_12_387 kx_12 (gModel_s ha) [.int v2, .int v1] rfl rfl (Nat.le_of_ble_eq_true rfl) dX12_offers_45 (m_Model_findsBest hX ha v2 v1 M b hb) ⟨Nat.le_of_ble_eq_true rfl, Nat.le_of_ble_eq_true rfl⟩ ⟨Nat.le_of_ble_eq_true rfl, Nat.le_of_ble_eq_true rfl⟩) (fun x8 M7 => ?_)
          refine zk_if_ne (tgt := 54) (pc := 48) B dX12_offers_48 (by decide) (fun _ => ?_) (fun _ => ?_)
          · refine zk_iload_n (pc := 54) B dX12_offers_54 0 rfl rfl ?_
            refine zk_if_ne (tgt := 103) (pc := 55) B dX12_offers_55 (by decide) (fun _ => ?_) (fun _ => ?_)
            · refine zk_sub [1, 2, 3] rfl ?_
              exact J103 v1 v2 M7
            · refine zk_aload_n (pc := 58) B dX12_offers_58 1 rfl rfl ?_
              refine zk_geti (pc := 59) B kx_12 (gModel_s ha) 40 (by decide) kf_12_298 rfl dX12_offers_59 ?_
              refine zk_aload_n (pc := 62) B dX12_offers_62 1 rfl rfl ?_
              refine zk_iload_n (pc := 63) B dX12_offers_63 2 rfl rfl ?_
              refine zk_bipush (v := 13) (pc := 64) B dX12_offers_64 (by decide) ?_
              refine zk_cpi (pc := 66) (k' := 0) (n' := 0) B rfl rfl (Nat.le_of_ble_eq_true rfl) (Nat.le_of_ble_eq_true rfl) (fun b hb => zr_V B hR kV_yX12_of km_12_274 kx_12 (gModel_s ha) [.int v1, .int 13] rfl rfl (Nat.le_of_ble_eq_true rfl) dX12_offers_66 (m_Model_of hX ha v1 13 M7 b hb) ⟨Nat.le_of_ble_eq_true rfl, Nat.le_of_ble_eq_true rfl⟩ ⟨Nat.le_of_ble_eq_true rfl, Nat.le_of_ble_eq_true rfl⟩) (fun x9 _ => ?_)
              refine zk_icmp_gt (tgt := 151) (pc := 69) B dX12_offers_69 (by decide) (fun _ => ?_) (fun _ => ?_)
              · refine zk_iinc (y := 1) (lf := fun x10 => [(2, .int x10), (3, .int s0), (0, .ref a), (1, .int v1)]) (pc := 151) B dX12_offers_151 3 rfl (by decide) (by decide) (fun _ => rfl) (fun x10 => ?_)
                refine zk_goto (tgt := 9) (pc := 154) B dX12_offers_154 (by decide) ?_
                refine zk_sub [2, 3, 0] rfl ?_
                exact ih9 v1 x10 M7
              · refine zk_aload_n (pc := 72) B dX12_offers_72 1 rfl rfl ?_
                refine zk_geti (pc := 73) B kx_12 (gModel_s ha) 40 (by decide) kf_12_298 rfl dX12_offers_73 ?_
                refine zk_aload_n (pc := 76) B dX12_offers_76 1 rfl rfl ?_
                refine zk_iload_n (pc := 77) B dX12_offers_77 2 rfl rfl ?_
                refine zk_bipush (v := 13) (pc := 78) B dX12_offers_78 (by decide) ?_
                refine zk_cpi (pc := 80) (k' := 0) (n' := 0) B rfl rfl (Nat.le_of_ble_eq_true rfl) (Nat.le_of_ble_eq_true rfl) (fun b hb => zr_V B hR kV_yX12_of km_12_274 kx_12 (gModel_s ha) [.int v1, .int 13] rfl rfl (Nat.le_of_ble_eq_true rfl) dX12_offers_80 (m_Model_of hX ha v1 13 M7 b hb) ⟨Nat.le_of_ble_eq_true rfl, Nat.le_of_ble_eq_true rfl⟩ ⟨Nat.le_of_ble_eq_true rfl, Nat.le_of_ble_eq_true rfl⟩) (fun x11 _ => ?_)
                refine zk_icmp_ne (tgt := 103) (pc := 83) B dX12_offers_83 (by decide) (fun _ => ?_) (fun _ => ?_)
                · refine zk_sub [1, 2, 3] rfl ?_
                  exact J103 v1 v2 M7
                · refine zk_aload_n (pc := 86) B dX12_offers_86 1 rfl rfl ?_
                  refine zk_geti (pc := 87) B kx_12 (gModel_s ha) 41 (by decide) kf_12_314 rfl dX12_offers_87 ?_
                  refine zk_aload_n (pc := 90) B dX12_offers_90 1 rfl rfl ?_
                  refine zk_iload_n (pc := 91) B dX12_offers_91 2 rfl rfl ?_
                  refine zk_bipush (v := 14) (pc := 92) B dX12_offers_92 (by decide) ?_
                  refine zk_cpi (pc := 94) (k' := 0) (n' := 0) B rfl rfl (Nat.le_of_ble_eq_true rfl) (Nat.le_of_ble_eq_true rfl) (fun b hb => zr_V B hR kV_yX12_of km_12_274 kx_12 (gModel_s ha) [.int v1, .int 14] rfl rfl (Nat.le_of_ble_eq_true rfl) dX12_offers_94 (m_Model_of hX ha v1 14 M7 b hb) ⟨Nat.le_of_ble_eq_true rfl, Nat.le_of_ble_eq_true rfl⟩ ⟨Nat.le_of_ble_eq_true rfl, Nat.le_of_ble_eq_true rfl⟩) (fun x12 _ => ?_)
                  refine zk_icmp_lt (tgt := 103) (pc := 97) B dX12_offers_97 (by decide) (fun _ => ?_) (fun _ => ?_)
                  · refine zk_sub [1, 2, 3] rfl ?_
                    exact J103 v1 v2 M7
                  · refine zk_goto (tgt := 151) (pc := 100) B dX12_offers_100 (by decide) ?_
                    refine zk_iinc (y := 1) (lf := fun x13 => [(2, .int x13), (3, .int s0), (0, .ref a), (1, .int v1)]) (pc := 151) B dX12_offers_151 3 rfl (by decide) (by decide) (fun _ => rfl) (fun x13 => ?_)
                    refine zk_goto (tgt := 9) (pc := 154) B dX12_offers_154 (by decide) ?_
                    refine zk_sub [2, 3, 0] rfl ?_
                    exact ih9 v1 x13 M7
          · refine zk_goto (tgt := 151) (pc := 51) B dX12_offers_51 (by decide) ?_
            refine zk_iinc (y := 1) (lf := fun x14 => [(2, .int x14), (3, .int s0), (0, .ref a), (1, .int v1)]) (pc := 151) B dX12_offers_151 3 rfl (by decide) (by decide) (fun _ => rfl) (fun x14 => ?_)
            refine zk_goto (tgt := 9) (pc := 154) B dX12_offers_154 (by decide) ?_
            refine zk_sub [2, 3, 0] rfl ?_
            exact ih9 v1 x14 M7
      intro v1 v2 M
      show z_K X F 4 0 0 G z_cvm b 0 0 9 [(0, .ref a), (1, .int v1), (2, .int v2)] [] M (F_Model_offers_B9 a (F_Model_offers_L9 a nf9) v1 v2 M)
      unfold F_Model_offers_B9
      refine zk_iload_n (pc := 9) B dX12_offers_9 2 rfl rfl ?_
      refine zk_aload_n (pc := 10) B dX12_offers_10 0 rfl rfl ?_
      refine zk_geti (pc := 11) B kx_12 (gModel_s ha) 17 (by decide) kf_12_114 rfl dX12_offers_11 ?_
      refine zk_icmp_ge (tgt := 157) (pc := 14) B dX12_offers_14 (by decide) (fun _ => ?_) (fun _ => ?_)
      · refine zk_aload_n (pc := 157) B dX12_offers_157 0 rfl rfl ?_
        refine zk_iload_n (pc := 158) B dX12_offers_158 1 rfl rfl ?_
        refine zk_bipush (v := 16) (pc := 159) B dX12_offers_159 (by decide) ?_
        refine zk_aload_n (pc := 161) B dX12_offers_161 0 rfl rfl ?_
        refine zk_getr (pc := 162) B kx_12 (gModel_s ha) 1 (by decide) kf_12_7 rfl (gModel_f1 ha) dX12_offers_162 ?_
        refine zk_iconst (v := 0) (pc := 165) B dX12_offers_165 (by decide) ?_
        refine zk_iald (pc := 166) B (gModel_t1 ha) dX12_offers_166 ?_
        refine zk_aload_n (pc := 167) B dX12_offers_167 0 rfl rfl ?_
        refine zk_iconst (v := 2) (pc := 168) B dX12_offers_168 (by decide) ?_
        refine zk_cpi (pc := 169) (k' := 0) (n' := 0) B rfl rfl (Nat.le_of_ble_eq_true rfl) (Nat.le_of_ble_eq_true rfl) (fun b hb => zr_V B hR kV_yX12_ruled km_12_292 kx_12 (gModel_s ha) [.int 2] rfl rfl (Nat.le_of_ble_eq_true rfl) dX12_offers_169 (m_Model_ruled hX ha 2 M b hb) ⟨Nat.le_of_ble_eq_true rfl, Nat.le_of_ble_eq_true rfl⟩ ⟨Nat.le_of_ble_eq_true rfl, Nat.le_of_ble_eq_true rfl⟩) (fun x2 _ => ?_)
        refine zk_iadd (pc := 172) B dX12_offers_172 ?_
        refine zk_cvm (pc := 173) (k' := 0) (n' := 0) B rfl rfl (Nat.le_of_ble_eq_true rfl) (Nat.le_of_ble_eq_true rfl) (fun b hb => zr_V B hR kV_yX12_sets km_12_346 kx_12 (gModel_s ha) [.int v1, .int 16, .int ((M.1 (a + 1) (0 : Int32).toNatClampNeg) + x2)] rfl rfl (Nat.le_of_ble_eq_true rfl) dX12_offers_173 (m_Model_sets hX ha v1 16 ((M.1 (a + 1) (0 : Int32).toNatClampNeg) + x2) M b hb) ⟨Nat.le_of_ble_eq_true rfl, Nat.le_of_ble_eq_true rfl⟩ ⟨Nat.le_of_ble_eq_true rfl, Nat.le_of_ble_eq_true rfl⟩) (fun M3 => ?_)
        exact zk_vret (pc := 176) B dX12_offers_176 rfl (Nat.le_of_ble_eq_true rfl) (Nat.le_of_ble_eq_true rfl) rfl
      · refine zk_aload_n (pc := 17) B dX12_offers_17 0 rfl rfl ?_
        refine zk_iload_n (pc := 18) B dX12_offers_18 1 rfl rfl ?_
        refine zk_iconst (v := 0) (pc := 19) B dX12_offers_19 (by decide) ?_
        refine zk_cpi (pc := 20) (k' := 0) (n' := 0) B rfl rfl (Nat.le_of_ble_eq_true rfl) (Nat.le_of_ble_eq_true rfl) (fun b hb => zr_V B hR kV_yX12_of km_12_274 kx_12 (gModel_s ha) [.int v1, .int 0] rfl rfl (Nat.le_of_ble_eq_true rfl) dX12_offers_20 (m_Model_of hX ha v1 0 M b hb) ⟨Nat.le_of_ble_eq_true rfl, Nat.le_of_ble_eq_true rfl⟩ ⟨Nat.le_of_ble_eq_true rfl, Nat.le_of_ble_eq_true rfl⟩) (fun x4 _ => ?_)
        refine zk_iconst (v := 4) (pc := 23) B dX12_offers_23 (by decide) ?_
        refine zk_icmp_ne (tgt := 31) (pc := 24) B dX12_offers_24 (by decide) (fun _ => ?_) (fun _ => ?_)
        · refine zk_iconst (v := 0) (pc := 31) B dX12_offers_31 (by decide) ?_
          exact J32 v1 v2 0 M
        · refine zk_iconst (v := 1) (pc := 27) B dX12_offers_27 (by decide) ?_
          refine zk_goto (tgt := 32) (pc := 28) B dX12_offers_28 (by decide) ?_
          exact J32 v1 v2 1 M
  show z_K X F 4 0 0 G z_cvm b 0 0 0 [(0, .ref a), (1, .int p0)] [] M (F_Model_offers a p0 M)
  unfold F_Model_offers
  refine zk_aload_n (pc := 0) B dX12_offers_0 0 rfl rfl ?_
  refine zk_iload_n (pc := 1) B dX12_offers_1 1 rfl rfl ?_
  refine zk_iconst (v := 0) (pc := 2) B dX12_offers_2 (by decide) ?_
  refine zk_iconst (v := 4) (pc := 3) B dX12_offers_3 (by decide) ?_
  refine zk_cvm (pc := 4) (k' := 0) (n' := 0) B rfl rfl (Nat.le_of_ble_eq_true rfl) (Nat.le_of_ble_eq_true rfl) (fun b hb => zr_V B hR kV_yX12_sets km_12_346 kx_12 (gModel_s ha) [.int p0, .int 0, .int 4] rfl rfl (Nat.le_of_ble_eq_true rfl) dX12_offers_4 (m_Model_sets hX ha p0 0 4 M b hb) ⟨Nat.le_of_ble_eq_true rfl, Nat.le_of_ble_eq_true rfl⟩ ⟨Nat.le_of_ble_eq_true rfl, Nat.le_of_ble_eq_true rfl⟩) (fun M1 => ?_)
  refine zk_iconst (v := 0) (pc := 7) B dX12_offers_7 (by decide) ?_
  refine zk_istore_n (loc' := [(2, .int 0), (0, .ref a), (1, .int p0)]) (pc := 8) B dX12_offers_8 rfl (by decide) rfl ?_
  refine zk_sub [1, 2, 0] rfl ?_
  exact L9 10000 p0 0 M1
set_option maxHeartbeats 4000000 in
set_option maxRecDepth 100000 in
theorem m_Model_ask {X : z_X} (hX : z_ok X) {G : z_Gr} {a : Nat} (ha : g_Model G a) (p0 : Int32) (p1 : Int32) (p2 : Int32) (p3 : Int32) (p4 : Int32) (M : z_Mem) (b : Int32 × z_Mem) (h : F_Model_ask a p0 p1 p2 p3 p4 M = some b) : z_Ct X yX12_ask cX12_ask 8 (some .int) ({ frames := 6, cells := 0, slots := 0, locals := 148 } : Room) [.ref a, .int p0, .int p1, .int p2, .int p3, .int p4] G M (fun o9 G9 M9 => G9 = G ∧ (o9, M9) = z_cim b) := by
  refine z_enter hX (by decide) (Nat.le_of_ble_eq_true rfl) h (fun F B hR => ?_)
  have L110 : ∀ (nf110 : Nat), ∀ (v1 : Int32) (v2 : Int32) (v3 : Int32) (v4 : Int32) (v5 : Int32) (v6 : Int32) (v7 : Int32) (M : z_Mem), z_K X F 8 0 0 G z_cim b 0 0 110 [(0, .ref a), (1, .int v1), (2, .int v2), (3, .int v3), (4, .int v4), (5, .int v5), (6, .int v6), (7, .int v7)] [] M (F_Model_ask_L110 a nf110 v1 v2 v3 v4 v5 v6 v7 M) := by
    intro nf110
    induction nf110 with
    | zero => intro v1 v2 v3 v4 v5 v6 v7 M; exact zk_none
    | succ nf110 ih110 =>
      intro v1 v2 v3 v4 v5 v6 v7 M
      show z_K X F 8 0 0 G z_cim b 0 0 110 [(0, .ref a), (1, .int v1), (2, .int v2), (3, .int v3), (4, .int v4), (5, .int v5), (6, .int v6), (7, .int v7)] [] M (F_Model_ask_B110 a (F_Model_ask_L110 a nf110) v1 v2 v3 v4 v5 v6 v7 M)
      unfold F_Model_ask_B110
      refine zk_iload (pc := 110) B dX12_ask_110 7 rfl ?_
      refine zk_bipush (v := 17) (pc := 112) B dX12_ask_112 (by decide) ?_
      refine zk_icmp_ge (tgt := 132) (pc := 114) B dX12_ask_114 (by decide) (fun _ => ?_) (fun _ => ?_)
      · refine zk_aload_n (pc := 132) B dX12_ask_132 0 rfl rfl ?_
        refine zk_iload (pc := 133) B dX12_ask_133 6 rfl ?_
        refine zk_iconst (v := 1) (pc := 135) B dX12_ask_135 (by decide) ?_
        refine zk_iload_n (pc := 136) B dX12_ask_136 1 rfl rfl ?_
        refine zk_cvm (pc := 137) (k' := 0) (n' := 0) B rfl rfl (Nat.le_of_ble_eq_true rfl) (Nat.le_of_ble_eq_true rfl) (fun b hb => zr_V B hR kV_yX12_sets km_12_346 kx_12 (gModel_s ha) [.int v6, .int 1, .int v1] rfl rfl (Nat.le_of_ble_eq_true rfl) dX12_ask_137 (m_Model_sets hX ha v6 1 v1 M b hb) ⟨Nat.le_of_ble_eq_true rfl, Nat.le_of_ble_eq_true rfl⟩ ⟨Nat.le_of_ble_eq_true rfl, Nat.le_of_ble_eq_true rfl⟩) (fun M13 => ?_)
        refine zk_aload_n (pc := 140) B dX12_ask_140 0 rfl rfl ?_
        refine zk_iload (pc := 141) B dX12_ask_141 6 rfl ?_
        refine zk_iconst (v := 2) (pc := 143) B dX12_ask_143 (by decide) ?_
        refine zk_iload_n (pc := 144) B dX12_ask_144 2 rfl rfl ?_
        refine zk_cvm (pc := 145) (k' := 0) (n' := 0) B rfl rfl (Nat.le_of_ble_eq_true rfl) (Nat.le_of_ble_eq_true rfl) (fun b hb => zr_V B hR kV_yX12_sets km_12_346 kx_12 (gModel_s ha) [.int v6, .int 2, .int v2] rfl rfl (Nat.le_of_ble_eq_true rfl) dX12_ask_145 (m_Model_sets hX ha v6 2 v2 M13 b hb) ⟨Nat.le_of_ble_eq_true rfl, Nat.le_of_ble_eq_true rfl⟩ ⟨Nat.le_of_ble_eq_true rfl, Nat.le_of_ble_eq_true rfl⟩) (fun M14 => ?_)
        refine zk_aload_n (pc := 148) B dX12_ask_148 0 rfl rfl ?_
        refine zk_iload (pc := 149) B dX12_ask_149 6 rfl ?_
        refine zk_iconst (v := 3) (pc := 151) B dX12_ask_151 (by decide) ?_
        refine zk_iload_n (pc := 152) B dX12_ask_152 3 rfl rfl ?_
        refine zk_cvm (pc := 153) (k' := 0) (n' := 0) B rfl rfl (Nat.le_of_ble_eq_true rfl) (Nat.le_of_ble_eq_true rfl) (fun b hb => zr_V B hR kV_yX12_sets km_12_346 kx_12 (gModel_s ha) [.int v6, .int 3, .int v3] rfl rfl (Nat.le_of_ble_eq_true rfl) dX12_ask_153 (m_Model_sets hX ha v6 3 v3 M14 b hb) ⟨Nat.le_of_ble_eq_true rfl, Nat.le_of_ble_eq_true rfl⟩ ⟨Nat.le_of_ble_eq_true rfl, Nat.le_of_ble_eq_true rfl⟩) (fun M15 => ?_)
        refine zk_aload_n (pc := 156) B dX12_ask_156 0 rfl rfl ?_
        refine zk_iload (pc := 157) B dX12_ask_157 6 rfl ?_
        refine zk_iconst (v := 4) (pc := 159) B dX12_ask_159 (by decide) ?_
        refine zk_aload_n (pc := 160) B dX12_ask_160 0 rfl rfl ?_
        refine zk_getr (pc := 161) B kx_12 (gModel_s ha) 1 (by decide) kf_12_7 rfl (gModel_f1 ha) dX12_ask_161 ?_
        refine zk_iconst (v := 0) (pc := 164) B dX12_ask_164 (by decide) ?_
        refine zk_iald (pc := 165) B (gModel_t1 ha) dX12_ask_165 ?_
        refine zk_iload (pc := 166) B dX12_ask_166 4 rfl ?_
        refine zk_iadd (pc := 168) B dX12_ask_168 ?_
        refine zk_cvm (pc := 169) (k' := 0) (n' := 0) B rfl rfl (Nat.le_of_ble_eq_true rfl) (Nat.le_of_ble_eq_true rfl) (fun b hb => zr_V B hR kV_yX12_sets km_12_346 kx_12 (gModel_s ha) [.int v6, .int 4, .int ((M15.1 (a + 1) (0 : Int32).toNatClampNeg) + v4)] rfl rfl (Nat.le_of_ble_eq_true rfl) dX12_ask_169 (m_Model_sets hX ha v6 4 ((M15.1 (a + 1) (0 : Int32).toNatClampNeg) + v4) M15 b hb) ⟨Nat.le_of_ble_eq_true rfl, Nat.le_of_ble_eq_true rfl⟩ ⟨Nat.le_of_ble_eq_true rfl, Nat.le_of_ble_eq_true rfl⟩) (fun M16 => ?_)
        refine zk_aload_n (pc := 172) B dX12_ask_172 0 rfl rfl ?_
        refine zk_iload (pc := 173) B dX12_ask_173 6 rfl ?_
        refine zk_iconst (v := 5) (pc := 175) B dX12_ask_175 (by decide) ?_
        refine zk_aload_n (pc := 176) B dX12_ask_176 0 rfl rfl ?_
        refine zk_getr (pc := 177) B kx_12 (gModel_s ha) 1 (by decide) kf_12_7 rfl (gModel_f1 ha) dX12_ask_177 ?_
        refine zk_iconst (v := 0) (pc := 180) B dX12_ask_180 (by decide) ?_
        refine zk_iald (pc := 181) B (gModel_t1 ha) dX12_ask_181 ?_
        refine zk_iload (pc := 182) B dX12_ask_182 4 rfl ?_
        refine zk_iadd (pc := 184) B dX12_ask_184 ?_
        refine zk_aload_n (pc := 185) B dX12_ask_185 0 rfl rfl ?_
        refine zk_iconst (v := 0) (pc := 186) B dX12_ask_186 (by decide) ?_
        refine zk_cpi (pc := 187) (k' := 0) (n' := 0) B rfl rfl (Nat.le_of_ble_eq_true rfl) (Nat.le_of_ble_eq_true rfl) (fun b hb => zr_V B hR kV_yX12_ruled km_12_292 kx_12 (gModel_s ha) [.int 0] rfl rfl (Nat.le_of_ble_eq_true rfl) dX12_ask_187 (m_Model_ruled hX ha 0 M16 b hb) ⟨Nat.le_of_ble_eq_true rfl, Nat.le_of_ble_eq_true rfl⟩ ⟨Nat.le_of_ble_eq_true rfl, Nat.le_of_ble_eq_true rfl⟩) (fun x17 _ => ?_)
        refine zk_iadd (pc := 190) B dX12_ask_190 ?_
        refine zk_cvm (pc := 191) (k' := 0) (n' := 0) B rfl rfl (Nat.le_of_ble_eq_true rfl) (Nat.le_of_ble_eq_true rfl) (fun b hb => zr_V B hR kV_yX12_sets km_12_346 kx_12 (gModel_s ha) [.int v6, .int 5, .int (((M16.1 (a + 1) (0 : Int32).toNatClampNeg) + v4) + x17)] rfl rfl (Nat.le_of_ble_eq_true rfl) dX12_ask_191 (m_Model_sets hX ha v6 5 (((M16.1 (a + 1) (0 : Int32).toNatClampNeg) + v4) + x17) M16 b hb) ⟨Nat.le_of_ble_eq_true rfl, Nat.le_of_ble_eq_true rfl⟩ ⟨Nat.le_of_ble_eq_true rfl, Nat.le_of_ble_eq_true rfl⟩) (fun M18 => ?_)
        refine zk_aload_n (pc := 194) B dX12_ask_194 0 rfl rfl ?_
        refine zk_iload (pc := 195) B dX12_ask_195 6 rfl ?_
        refine zk_bipush (v := 6) (pc := 197) B dX12_ask_197 (by decide) ?_
        refine zk_iload (pc := 199) B dX12_ask_199 5 rfl ?_
        refine zk_cvm (pc := 201) (k' := 0) (n' := 0) B rfl rfl (Nat.le_of_ble_eq_true rfl) (Nat.le_of_ble_eq_true rfl) (fun b hb => zr_V B hR kV_yX12_sets km_12_346 kx_12 (gModel_s ha) [.int v6, .int 6, .int v5] rfl rfl (Nat.le_of_ble_eq_true rfl) dX12_ask_201 (m_Model_sets hX ha v6 6 v5 M18 b hb) ⟨Nat.le_of_ble_eq_true rfl, Nat.le_of_ble_eq_true rfl⟩ ⟨Nat.le_of_ble_eq_true rfl, Nat.le_of_ble_eq_true rfl⟩) (fun M19 => ?_)
        refine zk_aload_n (pc := 204) B dX12_ask_204 0 rfl rfl ?_
        refine zk_iload (pc := 205) B dX12_ask_205 6 rfl ?_
        refine zk_bipush (v := 7) (pc := 207) B dX12_ask_207 (by decide) ?_
        refine zk_iconst (v := (-1)) (pc := 209) B dX12_ask_209 (by decide) ?_
        refine zk_cvm (pc := 210) (k' := 0) (n' := 0) B rfl rfl (Nat.le_of_ble_eq_true rfl) (Nat.le_of_ble_eq_true rfl) (fun b hb => zr_V B hR kV_yX12_sets km_12_346 kx_12 (gModel_s ha) [.int v6, .int 7, .int (-1)] rfl rfl (Nat.le_of_ble_eq_true rfl) dX12_ask_210 (m_Model_sets hX ha v6 7 (-1) M19 b hb) ⟨Nat.le_of_ble_eq_true rfl, Nat.le_of_ble_eq_true rfl⟩ ⟨Nat.le_of_ble_eq_true rfl, Nat.le_of_ble_eq_true rfl⟩) (fun M20 => ?_)
        refine zk_aload_n (pc := 213) B dX12_ask_213 0 rfl rfl ?_
        refine zk_iload (pc := 214) B dX12_ask_214 6 rfl ?_
        refine zk_bipush (v := 8) (pc := 216) B dX12_ask_216 (by decide) ?_
        refine zk_iconst (v := (-1)) (pc := 218) B dX12_ask_218 (by decide) ?_
        refine zk_cvm (pc := 219) (k' := 0) (n' := 0) B rfl rfl (Nat.le_of_ble_eq_true rfl) (Nat.le_of_ble_eq_true rfl) (fun b hb => zr_V B hR kV_yX12_sets km_12_346 kx_12 (gModel_s ha) [.int v6, .int 8, .int (-1)] rfl rfl (Nat.le_of_ble_eq_true rfl) dX12_ask_219 (m_Model_sets hX ha v6 8 (-1) M20 b hb) ⟨Nat.le_of_ble_eq_true rfl, Nat.le_of_ble_eq_true rfl⟩ ⟨Nat.le_of_ble_eq_true rfl, Nat.le_of_ble_eq_true rfl⟩) (fun M21 => ?_)
        refine zk_aload_n (pc := 222) B dX12_ask_222 0 rfl rfl ?_
        refine zk_iload (pc := 223) B dX12_ask_223 6 rfl ?_
        refine zk_bipush (v := 9) (pc := 225) B dX12_ask_225 (by decide) ?_
        refine zk_iconst (v := (-1)) (pc := 227) B dX12_ask_227 (by decide) ?_
        refine zk_cvm (pc := 228) (k' := 0) (n' := 0) B rfl rfl (Nat.le_of_ble_eq_true rfl) (Nat.le_of_ble_eq_true rfl) (fun b hb => zr_V B hR kV_yX12_sets km_12_346 kx_12 (gModel_s ha) [.int v6, .int 9, .int (-1)] rfl rfl (Nat.le_of_ble_eq_true rfl) dX12_ask_228 (m_Model_sets hX ha v6 9 (-1) M21 b hb) ⟨Nat.le_of_ble_eq_true rfl, Nat.le_of_ble_eq_true rfl⟩ ⟨Nat.le_of_ble_eq_true rfl, Nat.le_of_ble_eq_true rfl⟩) (fun M22 => ?_)
        refine zk_aload_n (pc := 231) B dX12_ask_231 0 rfl rfl ?_
        refine zk_getr (pc := 232) B kx_12 (gModel_s ha) 1 (by decide) kf_12_7 rfl (gModel_f1 ha) dX12_ask_232 ?_
        refine zk_iconst (v := 1) (pc := 235) B dX12_ask_235 (by decide) ?_
        refine zk_dup2 (pc := 236) B dX12_ask_236 rfl rfl ?_
        refine zk_iald (pc := 237) B (gModel_t1 ha) dX12_ask_237 ?_
        refine zk_iconst (v := 1) (pc := 238) B dX12_ask_238 (by decide) ?_
        refine zk_iadd (pc := 239) B dX12_ask_239 ?_
        refine zk_iast (pc := 240) B (gModel_t1 ha) dX12_ask_240 ?_
        refine zk_lm (fun M23 => ?_)
        refine zk_aload_n (pc := 241) B dX12_ask_241 0 rfl rfl ?_
        refine zk_iload (pc := 242) B dX12_ask_242 6 rfl ?_
        refine zk_cvm (pc := 244) (k' := 0) (n' := 0) B rfl rfl (Nat.le_of_ble_eq_true rfl) (Nat.le_of_ble_eq_true rfl) (fun b hb => zr_V B hR kV_yX12_offers km_12_405 kx_12 (gModel_s ha) [.int v6] rfl rfl (Nat.le_of_ble_eq_true rfl) dX12_ask_244 (m_Model_offers hX ha v6 M23 b hb) ⟨Nat.le_of_ble_eq_true rfl, Nat.le_of_ble_eq_true rfl⟩ ⟨Nat.le_of_ble_eq_true rfl, Nat.le_of_ble_eq_true rfl⟩) (fun M24 => ?_)
        refine zk_iload (pc := 247) B dX12_ask_247 6 rfl ?_
        exact zk_iret (pc := 249) B dX12_ask_249 rfl rfl (Nat.le_of_ble_eq_true rfl) (Nat.le_of_ble_eq_true rfl) rfl
      · refine zk_aload_n (pc := 117) B dX12_ask_117 0 rfl rfl ?_
        refine zk_iload (pc := 118) B dX12_ask_118 6 rfl ?_
        refine zk_iload (pc := 120) B dX12_ask_120 7 rfl ?_
        refine zk_iconst (v := 0) (pc := 122) B dX12_ask_122 (by decide) ?_
        refine zk_cvm (pc := 123) (k' := 0) (n' := 0) B rfl rfl (Nat.le_of_ble_eq_true rfl) (Nat.le_of_ble_eq_true rfl) (fun b hb => zr_V B hR kV_yX12_sets km_12_346 kx_12 (gModel_s ha) [.int v6, .int v7, .int 0] rfl rfl (Nat.le_of_ble_eq_true rfl) dX12_ask_123 (m_Model_sets hX ha v6 v7 0 M b hb) ⟨Nat.le_of_ble_eq_true rfl, Nat.le_of_ble_eq_true rfl⟩ ⟨Nat.le_of_ble_eq_true rfl, Nat.le_of_ble_eq_true rfl⟩) (fun M25 => ?_)
        refine zk_iinc (y := 1) (lf := fun x26 => [(7, .int x26), (0, .ref a), (1, .int v1), (2, .int v2), (3, .int v3), (4, .int v4), (5, .int v5), (6, .int v6)]) (pc := 126) B dX12_ask_126 7 rfl (by decide) (by decide) (fun _ => rfl) (fun x26 => ?_)
        refine zk_goto (tgt := 110) (pc := 129) B dX12_ask_129 (by decide) ?_
        refine zk_sub [1, 2, 3, 4, 5, 6, 7, 0] rfl ?_
        exact ih110 v1 v2 v3 v4 v5 v6 x26 M25
  have J72 : ∀ (v1 : Int32) (v2 : Int32) (v3 : Int32) (v4 : Int32) (v5 : Int32) (s0 : Int32) (M : z_Mem), z_K X F 8 0 0 G z_cim b 0 0 72 [(0, .ref a), (1, .int v1), (2, .int v2), (3, .int v3), (4, .int v4), (5, .int v5)] [.int s0, .ref a] M (F_Model_ask_J72 a v1 v2 v3 v4 v5 s0 M) := by
    intro v1 v2 v3 v4 v5 s0 M
    unfold F_Model_ask_J72
    refine zk_iconst (v := 2) (pc := 72) B dX12_ask_72 (by decide) ?_
    refine zk_cim (pc := 73) (k' := 0) (n' := 0) B rfl rfl (Nat.le_of_ble_eq_true rfl) (Nat.le_of_ble_eq_true rfl) (fun b hb => zr_V B hR kV_yX12_fails km_12_256 kx_12 (gModel_s ha) [.int s0, .int 2] rfl rfl (Nat.le_of_ble_eq_true rfl) dX12_ask_73 (m_Model_fails hX ha s0 2 M b hb) ⟨Nat.le_of_ble_eq_true rfl, Nat.le_of_ble_eq_true rfl⟩ ⟨Nat.le_of_ble_eq_true rfl, Nat.le_of_ble_eq_true rfl⟩) (fun x10 M9 => ?_)
    refine zk_if_eq (tgt := 81) (pc := 76) B dX12_ask_76 (by decide) (fun _ => ?_) (fun _ => ?_)
    · refine zk_aload_n (pc := 81) B dX12_ask_81 0 rfl rfl ?_
      refine zk_getr (pc := 82) B kx_12 (gModel_s ha) 1 (by decide) kf_12_7 rfl (gModel_f1 ha) dX12_ask_82 ?_
      refine zk_iconst (v := 1) (pc := 85) B dX12_ask_85 (by decide) ?_
      refine zk_iald (pc := 86) B (gModel_t1 ha) dX12_ask_86 ?_
      refine zk_bipush (v := 24) (pc := 87) B dX12_ask_87 (by decide) ?_
      refine zk_icmp_ne (tgt := 95) (pc := 89) B dX12_ask_89 (by decide) (fun _ => ?_) (fun _ => ?_)
      · refine zk_aload_n (pc := 95) B dX12_ask_95 0 rfl rfl ?_
        refine zk_cvm (pc := 96) (k' := 0) (n' := 0) B rfl rfl (Nat.le_of_ble_eq_true rfl) (Nat.le_of_ble_eq_true rfl) (fun b hb => zr_V B hR kV_yX12_records km_12_402 kx_12 (gModel_s ha) [] rfl rfl (Nat.le_of_ble_eq_true rfl) dX12_ask_96 (m_Model_records hX ha M9 b hb) ⟨Nat.le_of_ble_eq_true rfl, Nat.le_of_ble_eq_true rfl⟩ ⟨Nat.le_of_ble_eq_true rfl, Nat.le_of_ble_eq_true rfl⟩) (fun M11 => ?_)
        refine zk_aload_n (pc := 99) B dX12_ask_99 0 rfl rfl ?_
        refine zk_getr (pc := 100) B kx_12 (gModel_s ha) 1 (by decide) kf_12_7 rfl (gModel_f1 ha) dX12_ask_100 ?_
        refine zk_iconst (v := 1) (pc := 103) B dX12_ask_103 (by decide) ?_
        refine zk_iald (pc := 104) B (gModel_t1 ha) dX12_ask_104 ?_
        refine zk_li (fun x12 => ?_)
        refine zk_istore (loc' := [(6, .int x12), (0, .ref a), (1, .int v1), (2, .int v2), (3, .int v3), (4, .int v4), (5, .int v5)]) (pc := 105) B dX12_ask_105 (by decide) rfl ?_
        refine zk_iconst (v := 0) (pc := 107) B dX12_ask_107 (by decide) ?_
        refine zk_istore (loc' := [(7, .int 0), (6, .int x12), (0, .ref a), (1, .int v1), (2, .int v2), (3, .int v3), (4, .int v4), (5, .int v5)]) (pc := 108) B dX12_ask_108 (by decide) rfl ?_
        refine zk_sub [2, 3, 4, 5, 6, 7, 1, 0] rfl ?_
        exact L110 10000 v1 v2 v3 v4 v5 x12 0 M11
      · refine zk_bipush (v := (-2)) (pc := 92) B dX12_ask_92 (by decide) ?_
        exact zk_iret (pc := 94) B dX12_ask_94 rfl rfl (Nat.le_of_ble_eq_true rfl) (Nat.le_of_ble_eq_true rfl) rfl
    · refine zk_iconst (v := 0) (pc := 79) B dX12_ask_79 (by decide) ?_
      exact zk_iret (pc := 80) B dX12_ask_80 rfl rfl (Nat.le_of_ble_eq_true rfl) (Nat.le_of_ble_eq_true rfl) rfl
  have J71 : ∀ (v1 : Int32) (v2 : Int32) (v3 : Int32) (v4 : Int32) (v5 : Int32) (M : z_Mem), z_K X F 8 0 0 G z_cim b 0 0 71 [(0, .ref a), (1, .int v1), (2, .int v2), (3, .int v3), (4, .int v4), (5, .int v5)] [.ref a] M (F_Model_ask_J71 a v1 v2 v3 v4 v5 M) := by
    intro v1 v2 v3 v4 v5 M
    unfold F_Model_ask_J71
    refine zk_iconst (v := 0) (pc := 71) B dX12_ask_71 (by decide) ?_
    exact J72 v1 v2 v3 v4 v5 0 M
  show z_K X F 8 0 0 G z_cim b 0 0 0 [(0, .ref a), (1, .int p0), (2, .int p1), (3, .int p2), (4, .int p3), (5, .int p4)] [] M (F_Model_ask a p0 p1 p2 p3 p4 M)
  unfold F_Model_ask
  refine zk_aload_n (pc := 0) B dX12_ask_0 0 rfl rfl ?_
  refine zk_iconst (v := 0) (pc := 1) B dX12_ask_1 (by decide) ?_
  refine zk_puti (pc := 2) B kx_12 (gModel_s ha) 0 (by decide) kf_12_93 rfl rfl rfl rfl dX12_ask_2 ?_
  refine zk_lm (fun M1 => ?_)
  refine zk_aload_n (pc := 5) B dX12_ask_5 0 rfl rfl ?_
  refine zk_iload_n (pc := 6) B dX12_ask_6 1 rfl rfl ?_
  refine zk_cim (pc := 7) (k' := 0) (n' := 0) B rfl rfl (Nat.le_of_ble_eq_true rfl) (Nat.le_of_ble_eq_true rfl) (fun b hb => zr_V B hR kV_yX12_noZone km_12_372 kx_12 (gModel_s ha) [.int p0] rfl rfl (Nat.le_of_ble_eq_true rfl) dX12_ask_7 (m_Model_noZone hX ha p0 M1 b hb) ⟨Nat.le_of_ble_eq_true rfl, Nat.le_of_ble_eq_true rfl⟩ ⟨Nat.le_of_ble_eq_true rfl, Nat.le_of_ble_eq_true rfl⟩) (fun x3 M2 => ?_)
  refine zk_if_ne (tgt := 21) (pc := 10) B dX12_ask_10 (by decide) (fun _ => ?_) (fun _ => ?_)
  · refine zk_iconst (v := 0) (pc := 21) B dX12_ask_21 (by decide) ?_
    exact zk_iret (pc := 22) B dX12_ask_22 rfl rfl (Nat.le_of_ble_eq_true rfl) (Nat.le_of_ble_eq_true rfl) rfl
  · refine zk_aload_n (pc := 13) B dX12_ask_13 0 rfl rfl ?_
    refine zk_iload_n (pc := 14) B dX12_ask_14 2 rfl rfl ?_
    refine zk_cim (pc := 15) (k' := 0) (n' := 0) B rfl rfl (Nat.le_of_ble_eq_true rfl) (Nat.le_of_ble_eq_true rfl) (fun b hb => zr_V B hR kV_yX12_noZone km_12_372 kx_12 (gModel_s ha) [.int p1] rfl rfl (Nat.le_of_ble_eq_true rfl) dX12_ask_15 (m_Model_noZone hX ha p1 M2 b hb) ⟨Nat.le_of_ble_eq_true rfl, Nat.le_of_ble_eq_true rfl⟩ ⟨Nat.le_of_ble_eq_true rfl, Nat.le_of_ble_eq_true rfl⟩) (fun x5 M4 => ?_)
    refine zk_if_eq (tgt := 23) (pc := 18) B dX12_ask_18 (by decide) (fun _ => ?_) (fun _ => ?_)
    · refine zk_aload_n (pc := 23) B dX12_ask_23 0 rfl rfl ?_
      refine zk_iload_n (pc := 24) B dX12_ask_24 3 rfl rfl ?_
      refine zk_i2l (pc := 25) B dX12_ask_25 ?_
      refine zk_lconst (v := 1) (pc := 26) B dX12_ask_26 (by decide) ?_
      refine zk_ldc2 (pc := 27) B kl_12_396 dX12_ask_27 ?_
      refine zk_cpi (pc := 30) (k' := 0) (n' := 0) B rfl rfl (Nat.le_of_ble_eq_true rfl) (Nat.le_of_ble_eq_true rfl) (fun b hb => zr_S B hR kS_yX12_in km_12_197 [.long p2.toInt64, .long 1, .long 6] rfl rfl (Nat.le_of_ble_eq_true rfl) dX12_ask_30 (m_Model_in hX p2.toInt64 1 6 M4 b hb) ⟨Nat.le_of_ble_eq_true rfl, Nat.le_of_ble_eq_true rfl⟩ ⟨Nat.le_of_ble_eq_true rfl, Nat.le_of_ble_eq_true rfl⟩) (fun x6 _ => ?_)
      refine zk_if_eq (tgt := 71) (pc := 33) B dX12_ask_33 (by decide) (fun _ => ?_) (fun _ => ?_)
      · exact J71 p0 p1 p2 p3 p4 M4
      · refine zk_iload (pc := 36) B dX12_ask_36 4 rfl ?_
        refine zk_i2l (pc := 38) B dX12_ask_38 ?_
        refine zk_lconst (v := 0) (pc := 39) B dX12_ask_39 (by decide) ?_
        refine zk_ldc2 (pc := 40) B kl_12_398 dX12_ask_40 ?_
        refine zk_cpi (pc := 43) (k' := 0) (n' := 0) B rfl rfl (Nat.le_of_ble_eq_true rfl) (Nat.le_of_ble_eq_true rfl) (fun b hb => zr_S B hR kS_yX12_in km_12_197 [.long p3.toInt64, .long 0, .long 600] rfl rfl (Nat.le_of_ble_eq_true rfl) dX12_ask_43 (m_Model_in hX p3.toInt64 0 600 M4 b hb) ⟨Nat.le_of_ble_eq_true rfl, Nat.le_of_ble_eq_true rfl⟩ ⟨Nat.le_of_ble_eq_true rfl, Nat.le_of_ble_eq_true rfl⟩) (fun x7 _ => ?_)
        refine zk_if_eq (tgt := 71) (pc := 46) B dX12_ask_46 (by decide) (fun _ => ?_) (fun _ => ?_)
        · exact J71 p0 p1 p2 p3 p4 M4
        · refine zk_iload (pc := 49) B dX12_ask_49 5 rfl ?_
          refine zk_i2l (pc := 51) B dX12_ask_51 ?_
          refine zk_lconst (v := 0) (pc := 52) B dX12_ask_52 (by decide) ?_
          refine zk_ldc2 (pc := 53) B kl_12_400 dX12_ask_53 ?_
          refine zk_cpi (pc := 56) (k' := 0) (n' := 0) B rfl rfl (Nat.le_of_ble_eq_true rfl) (Nat.le_of_ble_eq_true rfl) (fun b hb => zr_S B hR kS_yX12_in km_12_197 [.long p4.toInt64, .long 0, .long 200] rfl rfl (Nat.le_of_ble_eq_true rfl) dX12_ask_56 (m_Model_in hX p4.toInt64 0 200 M4 b hb) ⟨Nat.le_of_ble_eq_true rfl, Nat.le_of_ble_eq_true rfl⟩ ⟨Nat.le_of_ble_eq_true rfl, Nat.le_of_ble_eq_true rfl⟩) (fun x8 _ => ?_)
          refine zk_if_eq (tgt := 71) (pc := 59) B dX12_ask_59 (by decide) (fun _ => ?_) (fun _ => ?_)
          · exact J71 p0 p1 p2 p3 p4 M4
          · refine zk_iload_n (pc := 62) B dX12_ask_62 1 rfl rfl ?_
            refine zk_iload_n (pc := 63) B dX12_ask_63 2 rfl rfl ?_
            refine zk_icmp_eq (tgt := 71) (pc := 64) B dX12_ask_64 (by decide) (fun _ => ?_) (fun _ => ?_)
            · exact J71 p0 p1 p2 p3 p4 M4
            · refine zk_iconst (v := 1) (pc := 67) B dX12_ask_67 (by decide) ?_
              refine zk_goto (tgt := 72) (pc := 68) B dX12_ask_68 (by decide) ?_
              exact J72 p0 p1 p2 p3 p4 1 M4
    · refine zk_iconst (v := 0) (pc := 21) B dX12_ask_21 (by decide) ?_
      exact zk_iret (pc := 22) B dX12_ask_22 rfl rfl (Nat.le_of_ble_eq_true rfl) (Nat.le_of_ble_eq_true rfl) rfl
set_option maxHeartbeats 4000000 in
set_option maxRecDepth 100000 in
theorem m_Model_accept {X : z_X} (hX : z_ok X) {G : z_Gr} {a : Nat} (ha : g_Model G a) (p0 : Int32) (M : z_Mem) (b : Int32 × z_Mem) (h : F_Model_accept a p0 M = some b) : z_Ct X yX12_accept cX12_accept 3 (some .int) ({ frames := 5, cells := 0, slots := 0, locals := 125 } : Room) [.ref a, .int p0] G M (fun o9 G9 M9 => G9 = G ∧ (o9, M9) = z_cim b) := by
  refine z_enter hX (by decide) (Nat.le_of_ble_eq_true rfl) h (fun F B hR => ?_)
  show z_K X F 3 0 0 G z_cim b 0 0 0 [(0, .ref a), (1, .int p0)] [] M (F_Model_accept a p0 M)
  unfold F_Model_accept
  refine zk_aload_n (pc := 0) B dX12_accept_0 0 rfl rfl ?_
  refine zk_iconst (v := 0) (pc := 1) B dX12_accept_1 (by decide) ?_
  refine zk_puti (pc := 2) B kx_12 (gModel_s ha) 0 (by decide) kf_12_93 rfl rfl rfl rfl dX12_accept_2 ?_
  refine zk_lm (fun M1 => ?_)
  refine zk_aload_n (pc := 5) B dX12_accept_5 0 rfl rfl ?_
  refine zk_iload_n (pc := 6) B dX12_accept_6 1 rfl rfl ?_
  refine zk_cim (pc := 7) (k' := 0) (n' := 0) B rfl rfl (Nat.le_of_ble_eq_true rfl) (Nat.le_of_ble_eq_true rfl) (fun b hb => zr_V B hR kV_yX12_noRide km_12_380 kx_12 (gModel_s ha) [.int p0] rfl rfl (Nat.le_of_ble_eq_true rfl) dX12_accept_7 (m_Model_noRide hX ha p0 M1 b hb) ⟨Nat.le_of_ble_eq_true rfl, Nat.le_of_ble_eq_true rfl⟩ ⟨Nat.le_of_ble_eq_true rfl, Nat.le_of_ble_eq_true rfl⟩) (fun x3 M2 => ?_)
  refine zk_if_eq (tgt := 15) (pc := 10) B dX12_accept_10 (by decide) (fun _ => ?_) (fun _ => ?_)
  · refine zk_aload_n (pc := 15) B dX12_accept_15 0 rfl rfl ?_
    refine zk_iload_n (pc := 16) B dX12_accept_16 1 rfl rfl ?_
    refine zk_iconst (v := 0) (pc := 17) B dX12_accept_17 (by decide) ?_
    refine zk_cpi (pc := 18) (k' := 0) (n' := 0) B rfl rfl (Nat.le_of_ble_eq_true rfl) (Nat.le_of_ble_eq_true rfl) (fun b hb => zr_V B hR kV_yX12_of km_12_274 kx_12 (gModel_s ha) [.int p0, .int 0] rfl rfl (Nat.le_of_ble_eq_true rfl) dX12_accept_18 (m_Model_of hX ha p0 0 M2 b hb) ⟨Nat.le_of_ble_eq_true rfl, Nat.le_of_ble_eq_true rfl⟩ ⟨Nat.le_of_ble_eq_true rfl, Nat.le_of_ble_eq_true rfl⟩) (fun x4 _ => ?_)
    refine zk_if_eq (tgt := 27) (pc := 21) B dX12_accept_21 (by decide) (fun _ => ?_) (fun _ => ?_)
    · refine zk_aload_n (pc := 27) B dX12_accept_27 0 rfl rfl ?_
      refine zk_iload_n (pc := 28) B dX12_accept_28 1 rfl rfl ?_
      refine zk_bipush (v := 12) (pc := 29) B dX12_accept_29 (by decide) ?_
      refine zk_cpi (pc := 31) (k' := 0) (n' := 0) B rfl rfl (Nat.le_of_ble_eq_true rfl) (Nat.le_of_ble_eq_true rfl) (fun b hb => zr_V B hR kV_yX12_of km_12_274 kx_12 (gModel_s ha) [.int p0, .int 12] rfl rfl (Nat.le_of_ble_eq_true rfl) dX12_accept_31 (m_Model_of hX ha p0 12 M2 b hb) ⟨Nat.le_of_ble_eq_true rfl, Nat.le_of_ble_eq_true rfl⟩ ⟨Nat.le_of_ble_eq_true rfl, Nat.le_of_ble_eq_true rfl⟩) (fun x5 _ => ?_)
      refine zk_istore_n (loc' := [(2, .int x5), (0, .ref a), (1, .int p0)]) (pc := 34) B dX12_accept_34 rfl (by decide) rfl ?_
      refine zk_aload_n (pc := 35) B dX12_accept_35 1 rfl rfl ?_
      refine zk_iload_n (pc := 36) B dX12_accept_36 0 rfl rfl ?_
      refine zk_iload_n (pc := 37) B dX12_accept_37 2 rfl rfl ?_
      refine zk_cim (pc := 38) (k' := 0) (n' := 0) B rfl rfl (Nat.le_of_ble_eq_true rfl) (Nat.le_of_ble_eq_true rfl) (fun b hb => zr_V B hR kV_yX12_findsBest km_12_387 kx_12 (gModel_s ha) [.int x5, .int p0] rfl rfl (Nat.le_of_ble_eq_true rfl) dX12_accept_38 (m_Model_findsBest hX ha x5 p0 M2 b hb) ⟨Nat.le_of_ble_eq_true rfl, Nat.le_of_ble_eq_true rfl⟩ ⟨Nat.le_of_ble_eq_true rfl, Nat.le_of_ble_eq_true rfl⟩) (fun x7 M6 => ?_)
      refine zk_if_ne (tgt := 47) (pc := 41) B dX12_accept_41 (by decide) (fun _ => ?_) (fun _ => ?_)
      · refine zk_aload_n (pc := 47) B dX12_accept_47 1 rfl rfl ?_
        refine zk_cvm (pc := 48) (k' := 0) (n' := 0) B rfl rfl (Nat.le_of_ble_eq_true rfl) (Nat.le_of_ble_eq_true rfl) (fun b hb => zr_V B hR kV_yX12_records km_12_402 kx_12 (gModel_s ha) [] rfl rfl (Nat.le_of_ble_eq_true rfl) dX12_accept_48 (m_Model_records hX ha M6 b hb) ⟨Nat.le_of_ble_eq_true rfl, Nat.le_of_ble_eq_true rfl⟩ ⟨Nat.le_of_ble_eq_true rfl, Nat.le_of_ble_eq_true rfl⟩) (fun M8 => ?_)
        refine zk_aload_n (pc := 51) B dX12_accept_51 1 rfl rfl ?_
        refine zk_iload_n (pc := 52) B dX12_accept_52 0 rfl rfl ?_
        refine zk_iload_n (pc := 53) B dX12_accept_53 2 rfl rfl ?_
        refine zk_aload_n (pc := 54) B dX12_accept_54 1 rfl rfl ?_
        refine zk_geti (pc := 55) B kx_12 (gModel_s ha) 43 (by decide) kf_12_320 rfl dX12_accept_55 ?_
        refine zk_aload_n (pc := 58) B dX12_accept_58 1 rfl rfl ?_
        refine zk_geti (pc := 59) B kx_12 (gModel_s ha) 44 (by decide) kf_12_323 rfl dX12_accept_59 ?_
        refine zk_cvm (pc := 62) (k' := 0) (n' := 0) B rfl rfl (Nat.le_of_ble_eq_true rfl) (Nat.le_of_ble_eq_true rfl) (fun b hb => zr_V B hR kV_yX12_insertsAt km_12_307 kx_12 (gModel_s ha) [.int x5, .int p0, .int (M8.1 a 43), .int (M8.1 a 44)] rfl rfl (Nat.le_of_ble_eq_true rfl) dX12_accept_62 (m_Model_insertsAt hX ha x5 p0 (M8.1 a 43) (M8.1 a 44) M8 b hb) ⟨Nat.le_of_ble_eq_true rfl, Nat.le_of_ble_eq_true rfl⟩ ⟨Nat.le_of_ble_eq_true rfl, Nat.le_of_ble_eq_true rfl⟩) (fun M9 => ?_)
        refine zk_aload_n (pc := 65) B dX12_accept_65 1 rfl rfl ?_
        refine zk_iload_n (pc := 66) B dX12_accept_66 0 rfl rfl ?_
        refine zk_cvm (pc := 67) (k' := 0) (n' := 0) B rfl rfl (Nat.le_of_ble_eq_true rfl) (Nat.le_of_ble_eq_true rfl) (fun b hb => zr_V B hR kV_yX12_puts km_12_408 kx_12 (gModel_s ha) [.int x5] rfl rfl (Nat.le_of_ble_eq_true rfl) dX12_accept_67 (m_Model_puts hX ha x5 M9 b hb) ⟨Nat.le_of_ble_eq_true rfl, Nat.le_of_ble_eq_true rfl⟩ ⟨Nat.le_of_ble_eq_true rfl, Nat.le_of_ble_eq_true rfl⟩) (fun M10 => ?_)
        refine zk_aload_n (pc := 70) B dX12_accept_70 1 rfl rfl ?_
        refine zk_iload_n (pc := 71) B dX12_accept_71 2 rfl rfl ?_
        refine zk_iconst (v := 0) (pc := 72) B dX12_accept_72 (by decide) ?_
        refine zk_iconst (v := 1) (pc := 73) B dX12_accept_73 (by decide) ?_
        refine zk_cvm (pc := 74) (k' := 0) (n' := 0) B rfl rfl (Nat.le_of_ble_eq_true rfl) (Nat.le_of_ble_eq_true rfl) (fun b hb => zr_V B hR kV_yX12_sets km_12_346 kx_12 (gModel_s ha) [.int p0, .int 0, .int 1] rfl rfl (Nat.le_of_ble_eq_true rfl) dX12_accept_74 (m_Model_sets hX ha p0 0 1 M10 b hb) ⟨Nat.le_of_ble_eq_true rfl, Nat.le_of_ble_eq_true rfl⟩ ⟨Nat.le_of_ble_eq_true rfl, Nat.le_of_ble_eq_true rfl⟩) (fun M11 => ?_)
        refine zk_aload_n (pc := 77) B dX12_accept_77 1 rfl rfl ?_
        refine zk_iload_n (pc := 78) B dX12_accept_78 2 rfl rfl ?_
        refine zk_bipush (v := 7) (pc := 79) B dX12_accept_79 (by decide) ?_
        refine zk_iload_n (pc := 81) B dX12_accept_81 0 rfl rfl ?_
        refine zk_cvm (pc := 82) (k' := 0) (n' := 0) B rfl rfl (Nat.le_of_ble_eq_true rfl) (Nat.le_of_ble_eq_true rfl) (fun b hb => zr_V B hR kV_yX12_sets km_12_346 kx_12 (gModel_s ha) [.int p0, .int 7, .int x5] rfl rfl (Nat.le_of_ble_eq_true rfl) dX12_accept_82 (m_Model_sets hX ha p0 7 x5 M11 b hb) ⟨Nat.le_of_ble_eq_true rfl, Nat.le_of_ble_eq_true rfl⟩ ⟨Nat.le_of_ble_eq_true rfl, Nat.le_of_ble_eq_true rfl⟩) (fun M12 => ?_)
        refine zk_aload_n (pc := 85) B dX12_accept_85 1 rfl rfl ?_
        refine zk_geti (pc := 86) B kx_12 (gModel_s ha) 41 (by decide) kf_12_314 rfl dX12_accept_86 ?_
        exact zk_iret (pc := 89) B dX12_accept_89 rfl rfl (Nat.le_of_ble_eq_true rfl) (Nat.le_of_ble_eq_true rfl) rfl
      · refine zk_bipush (v := (-3)) (pc := 44) B dX12_accept_44 (by decide) ?_
        exact zk_iret (pc := 46) B dX12_accept_46 rfl rfl (Nat.le_of_ble_eq_true rfl) (Nat.le_of_ble_eq_true rfl) rfl
    · refine zk_bipush (v := (-2)) (pc := 24) B dX12_accept_24 (by decide) ?_
      exact zk_iret (pc := 26) B dX12_accept_26 rfl rfl (Nat.le_of_ble_eq_true rfl) (Nat.le_of_ble_eq_true rfl) rfl
  · refine zk_iconst (v := 0) (pc := 13) B dX12_accept_13 (by decide) ?_
    exact zk_iret (pc := 14) B dX12_accept_14 rfl rfl (Nat.le_of_ble_eq_true rfl) (Nat.le_of_ble_eq_true rfl) rfl
set_option maxHeartbeats 4000000 in
set_option maxRecDepth 100000 in
theorem m_Model_decline {X : z_X} (hX : z_ok X) {G : z_Gr} {a : Nat} (ha : g_Model G a) (p0 : Int32) (M : z_Mem) (b : Int32 × z_Mem) (h : F_Model_decline a p0 M = some b) : z_Ct X yX12_decline cX12_decline 2 (some .int) ({ frames := 2, cells := 0, slots := 0, locals := 46 } : Room) [.ref a, .int p0] G M (fun o9 G9 M9 => G9 = G ∧ (o9, M9) = z_cim b) := by
  refine z_enter hX (by decide) (Nat.le_of_ble_eq_true rfl) h (fun F B hR => ?_)
  show z_K X F 2 0 0 G z_cim b 0 0 0 [(0, .ref a), (1, .int p0)] [] M (F_Model_decline a p0 M)
  unfold F_Model_decline
  refine zk_aload_n (pc := 0) B dX12_decline_0 0 rfl rfl ?_
  refine zk_iconst (v := 0) (pc := 1) B dX12_decline_1 (by decide) ?_
  refine zk_puti (pc := 2) B kx_12 (gModel_s ha) 0 (by decide) kf_12_93 rfl rfl rfl rfl dX12_decline_2 ?_
  refine zk_lm (fun M1 => ?_)
  refine zk_aload_n (pc := 5) B dX12_decline_5 0 rfl rfl ?_
  refine zk_iload_n (pc := 6) B dX12_decline_6 1 rfl rfl ?_
  refine zk_cim (pc := 7) (k' := 0) (n' := 0) B rfl rfl (Nat.le_of_ble_eq_true rfl) (Nat.le_of_ble_eq_true rfl) (fun b hb => zr_V B hR kV_yX12_noRide km_12_380 kx_12 (gModel_s ha) [.int p0] rfl rfl (Nat.le_of_ble_eq_true rfl) dX12_decline_7 (m_Model_noRide hX ha p0 M1 b hb) ⟨Nat.le_of_ble_eq_true rfl, Nat.le_of_ble_eq_true rfl⟩ ⟨Nat.le_of_ble_eq_true rfl, Nat.le_of_ble_eq_true rfl⟩) (fun x3 M2 => ?_)
  refine zk_if_eq (tgt := 15) (pc := 10) B dX12_decline_10 (by decide) (fun _ => ?_) (fun _ => ?_)
  · refine zk_aload_n (pc := 15) B dX12_decline_15 0 rfl rfl ?_
    refine zk_iload_n (pc := 16) B dX12_decline_16 1 rfl rfl ?_
    refine zk_iconst (v := 0) (pc := 17) B dX12_decline_17 (by decide) ?_
    refine zk_cpi (pc := 18) (k' := 0) (n' := 0) B rfl rfl (Nat.le_of_ble_eq_true rfl) (Nat.le_of_ble_eq_true rfl) (fun b hb => zr_V B hR kV_yX12_of km_12_274 kx_12 (gModel_s ha) [.int p0, .int 0] rfl rfl (Nat.le_of_ble_eq_true rfl) dX12_decline_18 (m_Model_of hX ha p0 0 M2 b hb) ⟨Nat.le_of_ble_eq_true rfl, Nat.le_of_ble_eq_true rfl⟩ ⟨Nat.le_of_ble_eq_true rfl, Nat.le_of_ble_eq_true rfl⟩) (fun x4 _ => ?_)
    refine zk_if_eq (tgt := 27) (pc := 21) B dX12_decline_21 (by decide) (fun _ => ?_) (fun _ => ?_)
    · refine zk_aload_n (pc := 27) B dX12_decline_27 0 rfl rfl ?_
      refine zk_cvm (pc := 28) (k' := 0) (n' := 0) B rfl rfl (Nat.le_of_ble_eq_true rfl) (Nat.le_of_ble_eq_true rfl) (fun b hb => zr_V B hR kV_yX12_records km_12_402 kx_12 (gModel_s ha) [] rfl rfl (Nat.le_of_ble_eq_true rfl) dX12_decline_28 (m_Model_records hX ha M2 b hb) ⟨Nat.le_of_ble_eq_true rfl, Nat.le_of_ble_eq_true rfl⟩ ⟨Nat.le_of_ble_eq_true rfl, Nat.le_of_ble_eq_true rfl⟩) (fun M5 => ?_)
      refine zk_aload_n (pc := 31) B dX12_decline_31 0 rfl rfl ?_
      refine zk_iload_n (pc := 32) B dX12_decline_32 1 rfl rfl ?_
      refine zk_iconst (v := 0) (pc := 33) B dX12_decline_33 (by decide) ?_
      refine zk_iconst (v := 4) (pc := 34) B dX12_decline_34 (by decide) ?_
      refine zk_cvm (pc := 35) (k' := 0) (n' := 0) B rfl rfl (Nat.le_of_ble_eq_true rfl) (Nat.le_of_ble_eq_true rfl) (fun b hb => zr_V B hR kV_yX12_sets km_12_346 kx_12 (gModel_s ha) [.int p0, .int 0, .int 4] rfl rfl (Nat.le_of_ble_eq_true rfl) dX12_decline_35 (m_Model_sets hX ha p0 0 4 M5 b hb) ⟨Nat.le_of_ble_eq_true rfl, Nat.le_of_ble_eq_true rfl⟩ ⟨Nat.le_of_ble_eq_true rfl, Nat.le_of_ble_eq_true rfl⟩) (fun M6 => ?_)
      refine zk_aload_n (pc := 38) B dX12_decline_38 0 rfl rfl ?_
      refine zk_iconst (v := 0) (pc := 39) B dX12_decline_39 (by decide) ?_
      refine zk_cpi (pc := 40) (k' := 0) (n' := 0) B rfl rfl (Nat.le_of_ble_eq_true rfl) (Nat.le_of_ble_eq_true rfl) (fun b hb => zr_V B hR kV_yX12_ridesIn km_12_364 kx_12 (gModel_s ha) [.int 0] rfl rfl (Nat.le_of_ble_eq_true rfl) dX12_decline_40 (m_Model_ridesIn hX ha 0 M6 b hb) ⟨Nat.le_of_ble_eq_true rfl, Nat.le_of_ble_eq_true rfl⟩ ⟨Nat.le_of_ble_eq_true rfl, Nat.le_of_ble_eq_true rfl⟩) (fun x7 _ => ?_)
      exact zk_iret (pc := 43) B dX12_decline_43 rfl rfl (Nat.le_of_ble_eq_true rfl) (Nat.le_of_ble_eq_true rfl) rfl
    · refine zk_bipush (v := (-2)) (pc := 24) B dX12_decline_24 (by decide) ?_
      exact zk_iret (pc := 26) B dX12_decline_26 rfl rfl (Nat.le_of_ble_eq_true rfl) (Nat.le_of_ble_eq_true rfl) rfl
  · refine zk_iconst (v := 0) (pc := 13) B dX12_decline_13 (by decide) ?_
    exact zk_iret (pc := 14) B dX12_decline_14 rfl rfl (Nat.le_of_ble_eq_true rfl) (Nat.le_of_ble_eq_true rfl) rfl
set_option maxHeartbeats 4000000 in
set_option maxRecDepth 100000 in
theorem m_Model_cancel {X : z_X} (hX : z_ok X) {G : z_Gr} {a : Nat} (ha : g_Model G a) (p0 : Int32) (M : z_Mem) (b : Int32 × z_Mem) (h : F_Model_cancel a p0 M = some b) : z_Ct X yX12_cancel cX12_cancel 3 (some .int) ({ frames := 2, cells := 0, slots := 0, locals := 48 } : Room) [.ref a, .int p0] G M (fun o9 G9 M9 => G9 = G ∧ (o9, M9) = z_cim b) := by
  refine z_enter hX (by decide) (Nat.le_of_ble_eq_true rfl) h (fun F B hR => ?_)
  have J64 : ∀ (v1 : Int32) (v2 : Int32) (M : z_Mem), z_K X F 3 0 0 G z_cim b 0 0 64 [(0, .ref a), (1, .int v1), (2, .int v2)] [] M (F_Model_cancel_J64 a v1 v2 M) := by
    intro v1 v2 M
    unfold F_Model_cancel_J64
    refine zk_aload_n (pc := 64) B dX12_cancel_64 0 rfl rfl ?_
    refine zk_cvm (pc := 65) (k' := 0) (n' := 0) B rfl rfl (Nat.le_of_ble_eq_true rfl) (Nat.le_of_ble_eq_true rfl) (fun b hb => zr_V B hR kV_yX12_records km_12_402 kx_12 (gModel_s ha) [] rfl rfl (Nat.le_of_ble_eq_true rfl) dX12_cancel_65 (m_Model_records hX ha M b hb) ⟨Nat.le_of_ble_eq_true rfl, Nat.le_of_ble_eq_true rfl⟩ ⟨Nat.le_of_ble_eq_true rfl, Nat.le_of_ble_eq_true rfl⟩) (fun M8 => ?_)
    refine zk_aload_n (pc := 68) B dX12_cancel_68 0 rfl rfl ?_
    refine zk_iload_n (pc := 69) B dX12_cancel_69 2 rfl rfl ?_
    refine zk_iconst (v := 2) (pc := 70) B dX12_cancel_70 (by decide) ?_
    refine zk_iload_n (pc := 71) B dX12_cancel_71 1 rfl rfl ?_
    refine zk_imul (pc := 72) B dX12_cancel_72 ?_
    refine zk_iconst (v := 1) (pc := 73) B dX12_cancel_73 (by decide) ?_
    refine zk_iadd (pc := 74) B dX12_cancel_74 ?_
    refine zk_cvm (pc := 75) (k' := 0) (n' := 0) B rfl rfl (Nat.le_of_ble_eq_true rfl) (Nat.le_of_ble_eq_true rfl) (fun b hb => zr_V B hR kV_yX12_drops km_12_411 kx_12 (gModel_s ha) [.int v2, .int ((2 * v1) + 1)] rfl rfl (Nat.le_of_ble_eq_true rfl) dX12_cancel_75 (m_Model_drops hX ha v2 ((2 * v1) + 1) M8 b hb) ⟨Nat.le_of_ble_eq_true rfl, Nat.le_of_ble_eq_true rfl⟩ ⟨Nat.le_of_ble_eq_true rfl, Nat.le_of_ble_eq_true rfl⟩) (fun M9 => ?_)
    refine zk_aload_n (pc := 78) B dX12_cancel_78 0 rfl rfl ?_
    refine zk_iload_n (pc := 79) B dX12_cancel_79 2 rfl rfl ?_
    refine zk_iconst (v := 2) (pc := 80) B dX12_cancel_80 (by decide) ?_
    refine zk_iload_n (pc := 81) B dX12_cancel_81 1 rfl rfl ?_
    refine zk_imul (pc := 82) B dX12_cancel_82 ?_
    refine zk_cvm (pc := 83) (k' := 0) (n' := 0) B rfl rfl (Nat.le_of_ble_eq_true rfl) (Nat.le_of_ble_eq_true rfl) (fun b hb => zr_V B hR kV_yX12_drops km_12_411 kx_12 (gModel_s ha) [.int v2, .int (2 * v1)] rfl rfl (Nat.le_of_ble_eq_true rfl) dX12_cancel_83 (m_Model_drops hX ha v2 (2 * v1) M9 b hb) ⟨Nat.le_of_ble_eq_true rfl, Nat.le_of_ble_eq_true rfl⟩ ⟨Nat.le_of_ble_eq_true rfl, Nat.le_of_ble_eq_true rfl⟩) (fun M10 => ?_)
    refine zk_aload_n (pc := 86) B dX12_cancel_86 0 rfl rfl ?_
    refine zk_iload_n (pc := 87) B dX12_cancel_87 1 rfl rfl ?_
    refine zk_iconst (v := 0) (pc := 88) B dX12_cancel_88 (by decide) ?_
    refine zk_bipush (v := 6) (pc := 89) B dX12_cancel_89 (by decide) ?_
    refine zk_cvm (pc := 91) (k' := 0) (n' := 0) B rfl rfl (Nat.le_of_ble_eq_true rfl) (Nat.le_of_ble_eq_true rfl) (fun b hb => zr_V B hR kV_yX12_sets km_12_346 kx_12 (gModel_s ha) [.int v1, .int 0, .int 6] rfl rfl (Nat.le_of_ble_eq_true rfl) dX12_cancel_91 (m_Model_sets hX ha v1 0 6 M10 b hb) ⟨Nat.le_of_ble_eq_true rfl, Nat.le_of_ble_eq_true rfl⟩ ⟨Nat.le_of_ble_eq_true rfl, Nat.le_of_ble_eq_true rfl⟩) (fun M11 => ?_)
    refine zk_aload_n (pc := 94) B dX12_cancel_94 0 rfl rfl ?_
    refine zk_iload_n (pc := 95) B dX12_cancel_95 2 rfl rfl ?_
    refine zk_bipush (v := 11) (pc := 96) B dX12_cancel_96 (by decide) ?_
    refine zk_cpi (pc := 98) (k' := 0) (n' := 0) B rfl rfl (Nat.le_of_ble_eq_true rfl) (Nat.le_of_ble_eq_true rfl) (fun b hb => zr_V B hR kV_yX12_in2 km_12_268 kx_12 (gModel_s ha) [.int v2, .int 11] rfl rfl (Nat.le_of_ble_eq_true rfl) dX12_cancel_98 (m_Model_in2 hX ha v2 11 M11 b hb) ⟨Nat.le_of_ble_eq_true rfl, Nat.le_of_ble_eq_true rfl⟩ ⟨Nat.le_of_ble_eq_true rfl, Nat.le_of_ble_eq_true rfl⟩) (fun x12 _ => ?_)
    exact zk_iret (pc := 101) B dX12_cancel_101 rfl rfl (Nat.le_of_ble_eq_true rfl) (Nat.le_of_ble_eq_true rfl) rfl
  show z_K X F 3 0 0 G z_cim b 0 0 0 [(0, .ref a), (1, .int p0)] [] M (F_Model_cancel a p0 M)
  unfold F_Model_cancel
  refine zk_aload_n (pc := 0) B dX12_cancel_0 0 rfl rfl ?_
  refine zk_iconst (v := 0) (pc := 1) B dX12_cancel_1 (by decide) ?_
  refine zk_puti (pc := 2) B kx_12 (gModel_s ha) 0 (by decide) kf_12_93 rfl rfl rfl rfl dX12_cancel_2 ?_
  refine zk_lm (fun M1 => ?_)
  refine zk_aload_n (pc := 5) B dX12_cancel_5 0 rfl rfl ?_
  refine zk_iload_n (pc := 6) B dX12_cancel_6 1 rfl rfl ?_
  refine zk_cim (pc := 7) (k' := 0) (n' := 0) B rfl rfl (Nat.le_of_ble_eq_true rfl) (Nat.le_of_ble_eq_true rfl) (fun b hb => zr_V B hR kV_yX12_noRide km_12_380 kx_12 (gModel_s ha) [.int p0] rfl rfl (Nat.le_of_ble_eq_true rfl) dX12_cancel_7 (m_Model_noRide hX ha p0 M1 b hb) ⟨Nat.le_of_ble_eq_true rfl, Nat.le_of_ble_eq_true rfl⟩ ⟨Nat.le_of_ble_eq_true rfl, Nat.le_of_ble_eq_true rfl⟩) (fun x3 M2 => ?_)
  refine zk_if_eq (tgt := 15) (pc := 10) B dX12_cancel_10 (by decide) (fun _ => ?_) (fun _ => ?_)
  · refine zk_aload_n (pc := 15) B dX12_cancel_15 0 rfl rfl ?_
    refine zk_iload_n (pc := 16) B dX12_cancel_16 1 rfl rfl ?_
    refine zk_iconst (v := 0) (pc := 17) B dX12_cancel_17 (by decide) ?_
    refine zk_cpi (pc := 18) (k' := 0) (n' := 0) B rfl rfl (Nat.le_of_ble_eq_true rfl) (Nat.le_of_ble_eq_true rfl) (fun b hb => zr_V B hR kV_yX12_of km_12_274 kx_12 (gModel_s ha) [.int p0, .int 0] rfl rfl (Nat.le_of_ble_eq_true rfl) dX12_cancel_18 (m_Model_of hX ha p0 0 M2 b hb) ⟨Nat.le_of_ble_eq_true rfl, Nat.le_of_ble_eq_true rfl⟩ ⟨Nat.le_of_ble_eq_true rfl, Nat.le_of_ble_eq_true rfl⟩) (fun x4 _ => ?_)
    refine zk_iconst (v := 1) (pc := 21) B dX12_cancel_21 (by decide) ?_
    refine zk_icmp_eq (tgt := 28) (pc := 22) B dX12_cancel_22 (by decide) (fun _ => ?_) (fun _ => ?_)
    · refine zk_aload_n (pc := 28) B dX12_cancel_28 0 rfl rfl ?_
      refine zk_iload_n (pc := 29) B dX12_cancel_29 1 rfl rfl ?_
      refine zk_bipush (v := 7) (pc := 30) B dX12_cancel_30 (by decide) ?_
      refine zk_cpi (pc := 32) (k' := 0) (n' := 0) B rfl rfl (Nat.le_of_ble_eq_true rfl) (Nat.le_of_ble_eq_true rfl) (fun b hb => zr_V B hR kV_yX12_of km_12_274 kx_12 (gModel_s ha) [.int p0, .int 7] rfl rfl (Nat.le_of_ble_eq_true rfl) dX12_cancel_32 (m_Model_of hX ha p0 7 M2 b hb) ⟨Nat.le_of_ble_eq_true rfl, Nat.le_of_ble_eq_true rfl⟩ ⟨Nat.le_of_ble_eq_true rfl, Nat.le_of_ble_eq_true rfl⟩) (fun x5 _ => ?_)
      refine zk_istore_n (loc' := [(2, .int x5), (0, .ref a), (1, .int p0)]) (pc := 35) B dX12_cancel_35 rfl (by decide) rfl ?_
      refine zk_aload_n (pc := 36) B dX12_cancel_36 1 rfl rfl ?_
      refine zk_iload_n (pc := 37) B dX12_cancel_37 0 rfl rfl ?_
      refine zk_iconst (v := 3) (pc := 38) B dX12_cancel_38 (by decide) ?_
      refine zk_cpi (pc := 39) (k' := 0) (n' := 0) B rfl rfl (Nat.le_of_ble_eq_true rfl) (Nat.le_of_ble_eq_true rfl) (fun b hb => zr_V B hR kV_yX12_in2 km_12_268 kx_12 (gModel_s ha) [.int x5, .int 3] rfl rfl (Nat.le_of_ble_eq_true rfl) dX12_cancel_39 (m_Model_in2 hX ha x5 3 M2 b hb) ⟨Nat.le_of_ble_eq_true rfl, Nat.le_of_ble_eq_true rfl⟩ ⟨Nat.le_of_ble_eq_true rfl, Nat.le_of_ble_eq_true rfl⟩) (fun x6 _ => ?_)
      refine zk_iconst (v := (-1)) (pc := 42) B dX12_cancel_42 (by decide) ?_
      refine zk_icmp_eq (tgt := 64) (pc := 43) B dX12_cancel_43 (by decide) (fun _ => ?_) (fun _ => ?_)
      · refine zk_sub [1, 2, 0] rfl ?_
        exact J64 p0 x5 M2
      · refine zk_aload_n (pc := 46) B dX12_cancel_46 1 rfl rfl ?_
        refine zk_iload_n (pc := 47) B dX12_cancel_47 0 rfl rfl ?_
        refine zk_bipush (v := 12) (pc := 48) B dX12_cancel_48 (by decide) ?_
        refine zk_cpi (pc := 50) (k' := 0) (n' := 0) B rfl rfl (Nat.le_of_ble_eq_true rfl) (Nat.le_of_ble_eq_true rfl) (fun b hb => zr_V B hR kV_yX12_in2 km_12_268 kx_12 (gModel_s ha) [.int x5, .int 12] rfl rfl (Nat.le_of_ble_eq_true rfl) dX12_cancel_50 (m_Model_in2 hX ha x5 12 M2 b hb) ⟨Nat.le_of_ble_eq_true rfl, Nat.le_of_ble_eq_true rfl⟩ ⟨Nat.le_of_ble_eq_true rfl, Nat.le_of_ble_eq_true rfl⟩) (fun x7 _ => ?_)
        refine zk_iconst (v := 2) (pc := 53) B dX12_cancel_53 (by decide) ?_
        refine zk_iload_n (pc := 54) B dX12_cancel_54 2 rfl rfl ?_
        refine zk_imul (pc := 55) B dX12_cancel_55 ?_
        refine zk_iconst (v := 1) (pc := 56) B dX12_cancel_56 (by decide) ?_
        refine zk_iadd (pc := 57) B dX12_cancel_57 ?_
        refine zk_icmp_ne (tgt := 64) (pc := 58) B dX12_cancel_58 (by decide) (fun _ => ?_) (fun _ => ?_)
        · refine zk_sub [1, 2, 0] rfl ?_
          exact J64 p0 x5 M2
        · refine zk_bipush (v := (-3)) (pc := 61) B dX12_cancel_61 (by decide) ?_
          exact zk_iret (pc := 63) B dX12_cancel_63 rfl rfl (Nat.le_of_ble_eq_true rfl) (Nat.le_of_ble_eq_true rfl) rfl
    · refine zk_bipush (v := (-2)) (pc := 25) B dX12_cancel_25 (by decide) ?_
      exact zk_iret (pc := 27) B dX12_cancel_27 rfl rfl (Nat.le_of_ble_eq_true rfl) (Nat.le_of_ble_eq_true rfl) rfl
  · refine zk_iconst (v := 0) (pc := 13) B dX12_cancel_13 (by decide) ?_
    exact zk_iret (pc := 14) B dX12_cancel_14 rfl rfl (Nat.le_of_ble_eq_true rfl) (Nat.le_of_ble_eq_true rfl) rfl
set_option maxHeartbeats 4000000 in
set_option maxRecDepth 100000 in
theorem m_Model_absent {X : z_X} (hX : z_ok X) {G : z_Gr} {a : Nat} (ha : g_Model G a) (p0 : Int32) (M : z_Mem) (b : Int32 × z_Mem) (h : F_Model_absent a p0 M = some b) : z_Ct X yX12_absent cX12_absent 2 (some .int) ({ frames := 2, cells := 0, slots := 0, locals := 48 } : Room) [.ref a, .int p0] G M (fun o9 G9 M9 => G9 = G ∧ (o9, M9) = z_cim b) := by
  refine z_enter hX (by decide) (Nat.le_of_ble_eq_true rfl) h (fun F B hR => ?_)
  show z_K X F 2 0 0 G z_cim b 0 0 0 [(0, .ref a), (1, .int p0)] [] M (F_Model_absent a p0 M)
  unfold F_Model_absent
  refine zk_aload_n (pc := 0) B dX12_absent_0 0 rfl rfl ?_
  refine zk_iconst (v := 0) (pc := 1) B dX12_absent_1 (by decide) ?_
  refine zk_puti (pc := 2) B kx_12 (gModel_s ha) 0 (by decide) kf_12_93 rfl rfl rfl rfl dX12_absent_2 ?_
  refine zk_lm (fun M1 => ?_)
  refine zk_aload_n (pc := 5) B dX12_absent_5 0 rfl rfl ?_
  refine zk_iload_n (pc := 6) B dX12_absent_6 1 rfl rfl ?_
  refine zk_cim (pc := 7) (k' := 0) (n' := 0) B rfl rfl (Nat.le_of_ble_eq_true rfl) (Nat.le_of_ble_eq_true rfl) (fun b hb => zr_V B hR kV_yX12_noRide km_12_380 kx_12 (gModel_s ha) [.int p0] rfl rfl (Nat.le_of_ble_eq_true rfl) dX12_absent_7 (m_Model_noRide hX ha p0 M1 b hb) ⟨Nat.le_of_ble_eq_true rfl, Nat.le_of_ble_eq_true rfl⟩ ⟨Nat.le_of_ble_eq_true rfl, Nat.le_of_ble_eq_true rfl⟩) (fun x3 M2 => ?_)
  refine zk_if_eq (tgt := 15) (pc := 10) B dX12_absent_10 (by decide) (fun _ => ?_) (fun _ => ?_)
  · refine zk_aload_n (pc := 15) B dX12_absent_15 0 rfl rfl ?_
    refine zk_iload_n (pc := 16) B dX12_absent_16 1 rfl rfl ?_
    refine zk_iconst (v := 0) (pc := 17) B dX12_absent_17 (by decide) ?_
    refine zk_cpi (pc := 18) (k' := 0) (n' := 0) B rfl rfl (Nat.le_of_ble_eq_true rfl) (Nat.le_of_ble_eq_true rfl) (fun b hb => zr_V B hR kV_yX12_of km_12_274 kx_12 (gModel_s ha) [.int p0, .int 0] rfl rfl (Nat.le_of_ble_eq_true rfl) dX12_absent_18 (m_Model_of hX ha p0 0 M2 b hb) ⟨Nat.le_of_ble_eq_true rfl, Nat.le_of_ble_eq_true rfl⟩ ⟨Nat.le_of_ble_eq_true rfl, Nat.le_of_ble_eq_true rfl⟩) (fun x4 _ => ?_)
    refine zk_iconst (v := 1) (pc := 21) B dX12_absent_21 (by decide) ?_
    refine zk_icmp_ne (tgt := 36) (pc := 22) B dX12_absent_22 (by decide) (fun _ => ?_) (fun _ => ?_)
    · refine zk_bipush (v := (-2)) (pc := 36) B dX12_absent_36 (by decide) ?_
      exact zk_iret (pc := 38) B dX12_absent_38 rfl rfl (Nat.le_of_ble_eq_true rfl) (Nat.le_of_ble_eq_true rfl) rfl
    · refine zk_aload_n (pc := 25) B dX12_absent_25 0 rfl rfl ?_
      refine zk_iload_n (pc := 26) B dX12_absent_26 1 rfl rfl ?_
      refine zk_bipush (v := 11) (pc := 27) B dX12_absent_27 (by decide) ?_
      refine zk_cpi (pc := 29) (k' := 0) (n' := 0) B rfl rfl (Nat.le_of_ble_eq_true rfl) (Nat.le_of_ble_eq_true rfl) (fun b hb => zr_V B hR kV_yX12_of km_12_274 kx_12 (gModel_s ha) [.int p0, .int 11] rfl rfl (Nat.le_of_ble_eq_true rfl) dX12_absent_29 (m_Model_of hX ha p0 11 M2 b hb) ⟨Nat.le_of_ble_eq_true rfl, Nat.le_of_ble_eq_true rfl⟩ ⟨Nat.le_of_ble_eq_true rfl, Nat.le_of_ble_eq_true rfl⟩) (fun x5 _ => ?_)
      refine zk_iconst (v := 1) (pc := 32) B dX12_absent_32 (by decide) ?_
      refine zk_icmp_ne (tgt := 39) (pc := 33) B dX12_absent_33 (by decide) (fun _ => ?_) (fun _ => ?_)
      · refine zk_aload_n (pc := 39) B dX12_absent_39 0 rfl rfl ?_
        refine zk_cvm (pc := 40) (k' := 0) (n' := 0) B rfl rfl (Nat.le_of_ble_eq_true rfl) (Nat.le_of_ble_eq_true rfl) (fun b hb => zr_V B hR kV_yX12_records km_12_402 kx_12 (gModel_s ha) [] rfl rfl (Nat.le_of_ble_eq_true rfl) dX12_absent_40 (m_Model_records hX ha M2 b hb) ⟨Nat.le_of_ble_eq_true rfl, Nat.le_of_ble_eq_true rfl⟩ ⟨Nat.le_of_ble_eq_true rfl, Nat.le_of_ble_eq_true rfl⟩) (fun M6 => ?_)
        refine zk_aload_n (pc := 43) B dX12_absent_43 0 rfl rfl ?_
        refine zk_aload_n (pc := 44) B dX12_absent_44 0 rfl rfl ?_
        refine zk_iload_n (pc := 45) B dX12_absent_45 1 rfl rfl ?_
        refine zk_bipush (v := 7) (pc := 46) B dX12_absent_46 (by decide) ?_
        refine zk_cpi (pc := 48) (k' := 0) (n' := 0) B rfl rfl (Nat.le_of_ble_eq_true rfl) (Nat.le_of_ble_eq_true rfl) (fun b hb => zr_V B hR kV_yX12_of km_12_274 kx_12 (gModel_s ha) [.int p0, .int 7] rfl rfl (Nat.le_of_ble_eq_true rfl) dX12_absent_48 (m_Model_of hX ha p0 7 M6 b hb) ⟨Nat.le_of_ble_eq_true rfl, Nat.le_of_ble_eq_true rfl⟩ ⟨Nat.le_of_ble_eq_true rfl, Nat.le_of_ble_eq_true rfl⟩) (fun x7 _ => ?_)
        refine zk_iconst (v := 2) (pc := 51) B dX12_absent_51 (by decide) ?_
        refine zk_iload_n (pc := 52) B dX12_absent_52 1 rfl rfl ?_
        refine zk_imul (pc := 53) B dX12_absent_53 ?_
        refine zk_cvm (pc := 54) (k' := 0) (n' := 0) B rfl rfl (Nat.le_of_ble_eq_true rfl) (Nat.le_of_ble_eq_true rfl) (fun b hb => zr_V B hR kV_yX12_drops km_12_411 kx_12 (gModel_s ha) [.int x7, .int (2 * p0)] rfl rfl (Nat.le_of_ble_eq_true rfl) dX12_absent_54 (m_Model_drops hX ha x7 (2 * p0) M6 b hb) ⟨Nat.le_of_ble_eq_true rfl, Nat.le_of_ble_eq_true rfl⟩ ⟨Nat.le_of_ble_eq_true rfl, Nat.le_of_ble_eq_true rfl⟩) (fun M8 => ?_)
        refine zk_aload_n (pc := 57) B dX12_absent_57 0 rfl rfl ?_
        refine zk_iload_n (pc := 58) B dX12_absent_58 1 rfl rfl ?_
        refine zk_bipush (v := 11) (pc := 59) B dX12_absent_59 (by decide) ?_
        refine zk_iconst (v := 1) (pc := 61) B dX12_absent_61 (by decide) ?_
        refine zk_cvm (pc := 62) (k' := 0) (n' := 0) B rfl rfl (Nat.le_of_ble_eq_true rfl) (Nat.le_of_ble_eq_true rfl) (fun b hb => zr_V B hR kV_yX12_sets km_12_346 kx_12 (gModel_s ha) [.int p0, .int 11, .int 1] rfl rfl (Nat.le_of_ble_eq_true rfl) dX12_absent_62 (m_Model_sets hX ha p0 11 1 M8 b hb) ⟨Nat.le_of_ble_eq_true rfl, Nat.le_of_ble_eq_true rfl⟩ ⟨Nat.le_of_ble_eq_true rfl, Nat.le_of_ble_eq_true rfl⟩) (fun M9 => ?_)
        refine zk_aload_n (pc := 65) B dX12_absent_65 0 rfl rfl ?_
        refine zk_aload_n (pc := 66) B dX12_absent_66 0 rfl rfl ?_
        refine zk_iload_n (pc := 67) B dX12_absent_67 1 rfl rfl ?_
        refine zk_bipush (v := 7) (pc := 68) B dX12_absent_68 (by decide) ?_
        refine zk_cpi (pc := 70) (k' := 0) (n' := 0) B rfl rfl (Nat.le_of_ble_eq_true rfl) (Nat.le_of_ble_eq_true rfl) (fun b hb => zr_V B hR kV_yX12_of km_12_274 kx_12 (gModel_s ha) [.int p0, .int 7] rfl rfl (Nat.le_of_ble_eq_true rfl) dX12_absent_70 (m_Model_of hX ha p0 7 M9 b hb) ⟨Nat.le_of_ble_eq_true rfl, Nat.le_of_ble_eq_true rfl⟩ ⟨Nat.le_of_ble_eq_true rfl, Nat.le_of_ble_eq_true rfl⟩) (fun x10 _ => ?_)
        refine zk_bipush (v := 11) (pc := 73) B dX12_absent_73 (by decide) ?_
        refine zk_cpi (pc := 75) (k' := 0) (n' := 0) B rfl rfl (Nat.le_of_ble_eq_true rfl) (Nat.le_of_ble_eq_true rfl) (fun b hb => zr_V B hR kV_yX12_in2 km_12_268 kx_12 (gModel_s ha) [.int x10, .int 11] rfl rfl (Nat.le_of_ble_eq_true rfl) dX12_absent_75 (m_Model_in2 hX ha x10 11 M9 b hb) ⟨Nat.le_of_ble_eq_true rfl, Nat.le_of_ble_eq_true rfl⟩ ⟨Nat.le_of_ble_eq_true rfl, Nat.le_of_ble_eq_true rfl⟩) (fun x11 _ => ?_)
        exact zk_iret (pc := 78) B dX12_absent_78 rfl rfl (Nat.le_of_ble_eq_true rfl) (Nat.le_of_ble_eq_true rfl) rfl
      · refine zk_bipush (v := (-2)) (pc := 36) B dX12_absent_36 (by decide) ?_
        exact zk_iret (pc := 38) B dX12_absent_38 rfl rfl (Nat.le_of_ble_eq_true rfl) (Nat.le_of_ble_eq_true rfl) rfl
  · refine zk_iconst (v := 0) (pc := 13) B dX12_absent_13 (by decide) ?_
    exact zk_iret (pc := 14) B dX12_absent_14 rfl rfl (Nat.le_of_ble_eq_true rfl) (Nat.le_of_ble_eq_true rfl) rfl
set_option maxHeartbeats 4000000 in
set_option maxRecDepth 100000 in
theorem m_Model_advance {X : z_X} (hX : z_ok X) {G : z_Gr} {a : Nat} (ha : g_Model G a) (p0 : Int32) (M : z_Mem) (b : Int32 × z_Mem) (h : F_Model_advance a p0 M = some b) : z_Ct X yX12_advance cX12_advance 5 (some .int) ({ frames := 6, cells := 0, slots := 0, locals := 140 } : Room) [.ref a, .int p0] G M (fun o9 G9 M9 => G9 = G ∧ (o9, M9) = z_cim b) := by
  refine z_enter hX (by decide) (Nat.le_of_ble_eq_true rfl) h (fun F B hR => ?_)
  have L87 : ∀ (nf87 : Nat), ∀ (v2 : Int32) (v3 : Int32) (v4 : Int32) (M : z_Mem), z_K X F 5 0 0 G z_cim b 0 0 87 [(0, .ref a), (2, .int v2), (3, .int v3), (4, .int v4)] [] M (F_Model_advance_L87 a nf87 v2 v3 v4 M) := by
    intro nf87
    induction nf87 with
    | zero => intro v2 v3 v4 M; exact zk_none
    | succ nf87 ih87 =>
      intro v2 v3 v4 M
      show z_K X F 5 0 0 G z_cim b 0 0 87 [(0, .ref a), (2, .int v2), (3, .int v3), (4, .int v4)] [] M (F_Model_advance_B87 a (F_Model_advance_L87 a nf87) v2 v3 v4 M)
      unfold F_Model_advance_B87
      refine zk_iload (pc := 87) B dX12_advance_87 3 rfl ?_
      refine zk_aload_n (pc := 89) B dX12_advance_89 0 rfl rfl ?_
      refine zk_getr (pc := 90) B kx_12 (gModel_s ha) 1 (by decide) kf_12_7 rfl (gModel_f1 ha) dX12_advance_90 ?_
      refine zk_iconst (v := 1) (pc := 93) B dX12_advance_93 (by decide) ?_
      refine zk_iald (pc := 94) B (gModel_t1 ha) dX12_advance_94 ?_
      refine zk_icmp_ge (tgt := 134) (pc := 95) B dX12_advance_95 (by decide) (fun _ => ?_) (fun _ => ?_)
      · refine zk_iload_n (pc := 134) B dX12_advance_134 2 rfl rfl ?_
        exact zk_iret (pc := 135) B dX12_advance_135 rfl rfl (Nat.le_of_ble_eq_true rfl) (Nat.le_of_ble_eq_true rfl) rfl
      · refine zk_aload_n (pc := 98) B dX12_advance_98 0 rfl rfl ?_
        refine zk_iload (pc := 99) B dX12_advance_99 3 rfl ?_
        refine zk_iconst (v := 0) (pc := 101) B dX12_advance_101 (by decide) ?_
        refine zk_cpi (pc := 102) (k' := 0) (n' := 0) B rfl rfl (Nat.le_of_ble_eq_true rfl) (Nat.le_of_ble_eq_true rfl) (fun b hb => zr_V B hR kV_yX12_of km_12_274 kx_12 (gModel_s ha) [.int v4, .int 0] rfl rfl (Nat.le_of_ble_eq_true rfl) dX12_advance_102 (m_Model_of hX ha v4 0 M b hb) ⟨Nat.le_of_ble_eq_true rfl, Nat.le_of_ble_eq_true rfl⟩ ⟨Nat.le_of_ble_eq_true rfl, Nat.le_of_ble_eq_true rfl⟩) (fun x12 _ => ?_)
        refine zk_if_ne (tgt := 128) (pc := 105) B dX12_advance_105 (by decide) (fun _ => ?_) (fun _ => ?_)
        · refine zk_iinc (y := 1) (lf := fun x13 => [(4, .int x13), (0, .ref a), (2, .int v2), (3, .int v3)]) (pc := 128) B dX12_advance_128 3 rfl (by decide) (by decide) (fun _ => rfl) (fun x13 => ?_)
          refine zk_goto (tgt := 87) (pc := 131) B dX12_advance_131 (by decide) ?_
          refine zk_sub [1, 2, 3, 0] rfl ?_
          exact ih87 v2 v3 x13 M
        · refine zk_iload_n (pc := 108) B dX12_advance_108 1 rfl rfl ?_
          refine zk_aload_n (pc := 109) B dX12_advance_109 0 rfl rfl ?_
          refine zk_iload (pc := 110) B dX12_advance_110 3 rfl ?_
          refine zk_bipush (v := 16) (pc := 112) B dX12_advance_112 (by decide) ?_
          refine zk_cpi (pc := 114) (k' := 0) (n' := 0) B rfl rfl (Nat.le_of_ble_eq_true rfl) (Nat.le_of_ble_eq_true rfl) (fun b hb => zr_V B hR kV_yX12_of km_12_274 kx_12 (gModel_s ha) [.int v4, .int 16] rfl rfl (Nat.le_of_ble_eq_true rfl) dX12_advance_114 (m_Model_of hX ha v4 16 M b hb) ⟨Nat.le_of_ble_eq_true rfl, Nat.le_of_ble_eq_true rfl⟩ ⟨Nat.le_of_ble_eq_true rfl, Nat.le_of_ble_eq_true rfl⟩) (fun x14 _ => ?_)
          refine zk_icmp_le (tgt := 128) (pc := 117) B dX12_advance_117 (by decide) (fun _ => ?_) (fun _ => ?_)
          · refine zk_iinc (y := 1) (lf := fun x15 => [(4, .int x15), (0, .ref a), (2, .int v2), (3, .int v3)]) (pc := 128) B dX12_advance_128 3 rfl (by decide) (by decide) (fun _ => rfl) (fun x15 => ?_)
            refine zk_goto (tgt := 87) (pc := 131) B dX12_advance_131 (by decide) ?_
            refine zk_sub [1, 2, 3, 0] rfl ?_
            exact ih87 v2 v3 x15 M
          · refine zk_aload_n (pc := 120) B dX12_advance_120 0 rfl rfl ?_
            refine zk_iload (pc := 121) B dX12_advance_121 3 rfl ?_
            refine zk_iconst (v := 0) (pc := 123) B dX12_advance_123 (by decide) ?_
            refine zk_iconst (v := 4) (pc := 124) B dX12_advance_124 (by decide) ?_
            refine zk_cvm (pc := 125) (k' := 0) (n' := 0) B rfl rfl (Nat.le_of_ble_eq_true rfl) (Nat.le_of_ble_eq_true rfl) (fun b hb => zr_V B hR kV_yX12_sets km_12_346 kx_12 (gModel_s ha) [.int v4, .int 0, .int 4] rfl rfl (Nat.le_of_ble_eq_true rfl) dX12_advance_125 (m_Model_sets hX ha v4 0 4 M b hb) ⟨Nat.le_of_ble_eq_true rfl, Nat.le_of_ble_eq_true rfl⟩ ⟨Nat.le_of_ble_eq_true rfl, Nat.le_of_ble_eq_true rfl⟩) (fun M16 => ?_)
            refine zk_iinc (y := 1) (lf := fun x17 => [(4, .int x17), (0, .ref a), (2, .int v2), (3, .int v3)]) (pc := 128) B dX12_advance_128 3 rfl (by decide) (by decide) (fun _ => rfl) (fun x17 => ?_)
            refine zk_goto (tgt := 87) (pc := 131) B dX12_advance_131 (by decide) ?_
            refine zk_sub [1, 2, 3, 0] rfl ?_
            exact ih87 v2 v3 x17 M16
  have L52 : ∀ (nf52 : Nat), ∀ (v2 : Int32) (v3 : Int32) (v4 : Int32) (M : z_Mem), z_K X F 5 0 0 G z_cim b 0 0 52 [(0, .ref a), (2, .int v2), (3, .int v3), (4, .int v4)] [] M (F_Model_advance_L52 a nf52 v2 v3 v4 M) := by
    intro nf52
    induction nf52 with
    | zero => intro v2 v3 v4 M; exact zk_none
    | succ nf52 ih52 =>
      intro v2 v3 v4 M
      show z_K X F 5 0 0 G z_cim b 0 0 52 [(0, .ref a), (2, .int v2), (3, .int v3), (4, .int v4)] [] M (F_Model_advance_B52 a (F_Model_advance_L52 a nf52) v2 v3 v4 M)
      unfold F_Model_advance_B52
      refine zk_iload (pc := 52) B dX12_advance_52 3 rfl ?_
      refine zk_aload_n (pc := 54) B dX12_advance_54 0 rfl rfl ?_
      refine zk_geti (pc := 55) B kx_12 (gModel_s ha) 17 (by decide) kf_12_114 rfl dX12_advance_55 ?_
      refine zk_icmp_ge (tgt := 77) (pc := 58) B dX12_advance_58 (by decide) (fun _ => ?_) (fun _ => ?_)
      · refine zk_aload_n (pc := 77) B dX12_advance_77 0 rfl rfl ?_
        refine zk_getr (pc := 78) B kx_12 (gModel_s ha) 1 (by decide) kf_12_7 rfl (gModel_f1 ha) dX12_advance_78 ?_
        refine zk_iconst (v := 0) (pc := 81) B dX12_advance_81 (by decide) ?_
        refine zk_iload_n (pc := 82) B dX12_advance_82 1 rfl rfl ?_
        refine zk_iast (pc := 83) B (gModel_t1 ha) dX12_advance_83 ?_
        refine zk_lm (fun M7 => ?_)
        refine zk_iconst (v := 0) (pc := 84) B dX12_advance_84 (by decide) ?_
        refine zk_istore (loc' := [(4, .int 0), (0, .ref a), (2, .int v2), (3, .int v3)]) (pc := 85) B dX12_advance_85 (by decide) rfl ?_
        refine zk_sub [1, 2, 3, 0] rfl ?_
        exact L87 10000 v2 v3 0 M7
      · refine zk_iload_n (pc := 61) B dX12_advance_61 2 rfl rfl ?_
        refine zk_aload_n (pc := 62) B dX12_advance_62 0 rfl rfl ?_
        refine zk_iload (pc := 63) B dX12_advance_63 3 rfl ?_
        refine zk_iload_n (pc := 65) B dX12_advance_65 1 rfl rfl ?_
        refine zk_cim (pc := 66) (k' := 0) (n' := 0) B rfl rfl (Nat.le_of_ble_eq_true rfl) (Nat.le_of_ble_eq_true rfl) (fun b hb => zr_V B hR kV_yX12_goesOn km_12_416 kx_12 (gModel_s ha) [.int v4, .int v2] rfl rfl (Nat.le_of_ble_eq_true rfl) dX12_advance_66 (m_Model_goesOn hX ha v4 v2 M b hb) ⟨Nat.le_of_ble_eq_true rfl, Nat.le_of_ble_eq_true rfl⟩ ⟨Nat.le_of_ble_eq_true rfl, Nat.le_of_ble_eq_true rfl⟩) (fun x9 M8 => ?_)
        refine zk_iadd (pc := 69) B dX12_advance_69 ?_
        refine zk_li (fun x10 => ?_)
        refine zk_istore_n (loc' := [(3, .int x10), (0, .ref a), (2, .int v2), (4, .int v4)]) (pc := 70) B dX12_advance_70 rfl (by decide) rfl ?_
        refine zk_iinc (y := 1) (lf := fun x11 => [(4, .int x11), (3, .int x10), (0, .ref a), (2, .int v2)]) (pc := 71) B dX12_advance_71 3 rfl (by decide) (by decide) (fun _ => rfl) (fun x11 => ?_)
        refine zk_goto (tgt := 52) (pc := 74) B dX12_advance_74 (by decide) ?_
        refine zk_sub [2, 3, 1, 0] rfl ?_
        exact ih52 v2 x10 x11 M8
  show z_K X F 5 0 0 G z_cim b 0 0 0 [(0, .ref a), (1, .int p0)] [] M (F_Model_advance a p0 M)
  unfold F_Model_advance
  refine zk_aload_n (pc := 0) B dX12_advance_0 0 rfl rfl ?_
  refine zk_iconst (v := 0) (pc := 1) B dX12_advance_1 (by decide) ?_
  refine zk_puti (pc := 2) B kx_12 (gModel_s ha) 0 (by decide) kf_12_93 rfl rfl rfl rfl dX12_advance_2 ?_
  refine zk_lm (fun M1 => ?_)
  refine zk_aload_n (pc := 5) B dX12_advance_5 0 rfl rfl ?_
  refine zk_iload_n (pc := 6) B dX12_advance_6 1 rfl rfl ?_
  refine zk_i2l (pc := 7) B dX12_advance_7 ?_
  refine zk_lconst (v := 1) (pc := 8) B dX12_advance_8 (by decide) ?_
  refine zk_ldc2 (pc := 9) B kl_12_414 dX12_advance_9 ?_
  refine zk_cpi (pc := 12) (k' := 0) (n' := 0) B rfl rfl (Nat.le_of_ble_eq_true rfl) (Nat.le_of_ble_eq_true rfl) (fun b hb => zr_S B hR kS_yX12_in km_12_197 [.long p0.toInt64, .long 1, .long 1440] rfl rfl (Nat.le_of_ble_eq_true rfl) dX12_advance_12 (m_Model_in hX p0.toInt64 1 1440 M1 b hb) ⟨Nat.le_of_ble_eq_true rfl, Nat.le_of_ble_eq_true rfl⟩ ⟨Nat.le_of_ble_eq_true rfl, Nat.le_of_ble_eq_true rfl⟩) (fun x2 _ => ?_)
  refine zk_iconst (v := 1) (pc := 15) B dX12_advance_15 (by decide) ?_
  refine zk_cim (pc := 16) (k' := 0) (n' := 0) B rfl rfl (Nat.le_of_ble_eq_true rfl) (Nat.le_of_ble_eq_true rfl) (fun b hb => zr_V B hR kV_yX12_fails km_12_256 kx_12 (gModel_s ha) [.int x2, .int 1] rfl rfl (Nat.le_of_ble_eq_true rfl) dX12_advance_16 (m_Model_fails hX ha x2 1 M1 b hb) ⟨Nat.le_of_ble_eq_true rfl, Nat.le_of_ble_eq_true rfl⟩ ⟨Nat.le_of_ble_eq_true rfl, Nat.le_of_ble_eq_true rfl⟩) (fun x4 M3 => ?_)
  refine zk_if_eq (tgt := 24) (pc := 19) B dX12_advance_19 (by decide) (fun _ => ?_) (fun _ => ?_)
  · refine zk_aload_n (pc := 24) B dX12_advance_24 0 rfl rfl ?_
    refine zk_getr (pc := 25) B kx_12 (gModel_s ha) 1 (by decide) kf_12_7 rfl (gModel_f1 ha) dX12_advance_25 ?_
    refine zk_iconst (v := 0) (pc := 28) B dX12_advance_28 (by decide) ?_
    refine zk_iald (pc := 29) B (gModel_t1 ha) dX12_advance_29 ?_
    refine zk_iload_n (pc := 30) B dX12_advance_30 1 rfl rfl ?_
    refine zk_iadd (pc := 31) B dX12_advance_31 ?_
    refine zk_li (fun x5 => ?_)
    refine zk_istore_n (loc' := [(2, .int x5), (0, .ref a), (1, .int p0)]) (pc := 32) B dX12_advance_32 rfl (by decide) rfl ?_
    refine zk_iload_n (pc := 33) B dX12_advance_33 0 rfl rfl ?_
    refine zk_sipush (v := 9999) (pc := 34) B dX12_advance_34 (by decide) ?_
    refine zk_icmp_le (tgt := 43) (pc := 37) B dX12_advance_37 (by decide) (fun _ => ?_) (fun _ => ?_)
    · refine zk_aload_n (pc := 43) B dX12_advance_43 1 rfl rfl ?_
      refine zk_cvm (pc := 44) (k' := 0) (n' := 0) B rfl rfl (Nat.le_of_ble_eq_true rfl) (Nat.le_of_ble_eq_true rfl) (fun b hb => zr_V B hR kV_yX12_records km_12_402 kx_12 (gModel_s ha) [] rfl rfl (Nat.le_of_ble_eq_true rfl) dX12_advance_44 (m_Model_records hX ha M3 b hb) ⟨Nat.le_of_ble_eq_true rfl, Nat.le_of_ble_eq_true rfl⟩ ⟨Nat.le_of_ble_eq_true rfl, Nat.le_of_ble_eq_true rfl⟩) (fun M6 => ?_)
      refine zk_iconst (v := 0) (pc := 47) B dX12_advance_47 (by decide) ?_
      refine zk_istore_n (loc' := [(3, .int 0), (2, .int x5), (0, .ref a), (1, .int p0)]) (pc := 48) B dX12_advance_48 rfl (by decide) rfl ?_
      refine zk_iconst (v := 0) (pc := 49) B dX12_advance_49 (by decide) ?_
      refine zk_istore (loc' := [(4, .int 0), (3, .int 0), (2, .int x5), (0, .ref a), (1, .int p0)]) (pc := 50) B dX12_advance_50 (by decide) rfl ?_
      refine zk_sub [3, 2, 1, 0] rfl ?_
      exact L52 10000 x5 0 0 M6
    · refine zk_bipush (v := (-2)) (pc := 40) B dX12_advance_40 (by decide) ?_
      exact zk_iret (pc := 42) B dX12_advance_42 rfl rfl (Nat.le_of_ble_eq_true rfl) (Nat.le_of_ble_eq_true rfl) rfl
  · refine zk_iconst (v := 0) (pc := 22) B dX12_advance_22 (by decide) ?_
    exact zk_iret (pc := 23) B dX12_advance_23 rfl rfl (Nat.le_of_ble_eq_true rfl) (Nat.le_of_ble_eq_true rfl) rfl
set_option maxHeartbeats 4000000 in
set_option maxRecDepth 100000 in
theorem m_Model_tip {X : z_X} (hX : z_ok X) {G : z_Gr} {a : Nat} (ha : g_Model G a) (p0 : Int32) (p1 : Int32) (M : z_Mem) (b : Int32 × z_Mem) (h : F_Model_tip a p0 p1 M = some b) : z_Ct X yX12_tip cX12_tip 3 (some .int) ({ frames := 2, cells := 0, slots := 0, locals := 46 } : Room) [.ref a, .int p0, .int p1] G M (fun o9 G9 M9 => G9 = G ∧ (o9, M9) = z_cim b) := by
  refine z_enter hX (by decide) (Nat.le_of_ble_eq_true rfl) h (fun F B hR => ?_)
  show z_K X F 3 0 0 G z_cim b 0 0 0 [(0, .ref a), (1, .int p0), (2, .int p1)] [] M (F_Model_tip a p0 p1 M)
  unfold F_Model_tip
  refine zk_aload_n (pc := 0) B dX12_tip_0 0 rfl rfl ?_
  refine zk_iconst (v := 0) (pc := 1) B dX12_tip_1 (by decide) ?_
  refine zk_puti (pc := 2) B kx_12 (gModel_s ha) 0 (by decide) kf_12_93 rfl rfl rfl rfl dX12_tip_2 ?_
  refine zk_lm (fun M1 => ?_)
  refine zk_aload_n (pc := 5) B dX12_tip_5 0 rfl rfl ?_
  refine zk_iload_n (pc := 6) B dX12_tip_6 1 rfl rfl ?_
  refine zk_cim (pc := 7) (k' := 0) (n' := 0) B rfl rfl (Nat.le_of_ble_eq_true rfl) (Nat.le_of_ble_eq_true rfl) (fun b hb => zr_V B hR kV_yX12_noTaxi km_12_375 kx_12 (gModel_s ha) [.int p0] rfl rfl (Nat.le_of_ble_eq_true rfl) dX12_tip_7 (m_Model_noTaxi hX ha p0 M1 b hb) ⟨Nat.le_of_ble_eq_true rfl, Nat.le_of_ble_eq_true rfl⟩ ⟨Nat.le_of_ble_eq_true rfl, Nat.le_of_ble_eq_true rfl⟩) (fun x3 M2 => ?_)
  refine zk_if_ne (tgt := 30) (pc := 10) B dX12_tip_10 (by decide) (fun _ => ?_) (fun _ => ?_)
  · refine zk_iconst (v := 0) (pc := 30) B dX12_tip_30 (by decide) ?_
    exact zk_iret (pc := 31) B dX12_tip_31 rfl rfl (Nat.le_of_ble_eq_true rfl) (Nat.le_of_ble_eq_true rfl) rfl
  · refine zk_aload_n (pc := 13) B dX12_tip_13 0 rfl rfl ?_
    refine zk_iload_n (pc := 14) B dX12_tip_14 2 rfl rfl ?_
    refine zk_i2l (pc := 15) B dX12_tip_15 ?_
    refine zk_lconst (v := 1) (pc := 16) B dX12_tip_16 (by decide) ?_
    refine zk_ldc2 (pc := 17) B kl_12_419 dX12_tip_17 ?_
    refine zk_cpi (pc := 20) (k' := 0) (n' := 0) B rfl rfl (Nat.le_of_ble_eq_true rfl) (Nat.le_of_ble_eq_true rfl) (fun b hb => zr_S B hR kS_yX12_in km_12_197 [.long p1.toInt64, .long 1, .long 2000000000] rfl rfl (Nat.le_of_ble_eq_true rfl) dX12_tip_20 (m_Model_in hX p1.toInt64 1 2000000000 M2 b hb) ⟨Nat.le_of_ble_eq_true rfl, Nat.le_of_ble_eq_true rfl⟩ ⟨Nat.le_of_ble_eq_true rfl, Nat.le_of_ble_eq_true rfl⟩) (fun x4 _ => ?_)
    refine zk_iconst (v := 2) (pc := 23) B dX12_tip_23 (by decide) ?_
    refine zk_cim (pc := 24) (k' := 0) (n' := 0) B rfl rfl (Nat.le_of_ble_eq_true rfl) (Nat.le_of_ble_eq_true rfl) (fun b hb => zr_V B hR kV_yX12_fails km_12_256 kx_12 (gModel_s ha) [.int x4, .int 2] rfl rfl (Nat.le_of_ble_eq_true rfl) dX12_tip_24 (m_Model_fails hX ha x4 2 M2 b hb) ⟨Nat.le_of_ble_eq_true rfl, Nat.le_of_ble_eq_true rfl⟩ ⟨Nat.le_of_ble_eq_true rfl, Nat.le_of_ble_eq_true rfl⟩) (fun x6 M5 => ?_)
    refine zk_if_eq (tgt := 32) (pc := 27) B dX12_tip_27 (by decide) (fun _ => ?_) (fun _ => ?_)
    · refine zk_aload_n (pc := 32) B dX12_tip_32 0 rfl rfl ?_
      refine zk_iload_n (pc := 33) B dX12_tip_33 1 rfl rfl ?_
      refine zk_iconst (v := 5) (pc := 34) B dX12_tip_34 (by decide) ?_
      refine zk_cpi (pc := 35) (k' := 0) (n' := 0) B rfl rfl (Nat.le_of_ble_eq_true rfl) (Nat.le_of_ble_eq_true rfl) (fun b hb => zr_V B hR kV_yX12_in2 km_12_268 kx_12 (gModel_s ha) [.int p0, .int 5] rfl rfl (Nat.le_of_ble_eq_true rfl) dX12_tip_35 (m_Model_in2 hX ha p0 5 M5 b hb) ⟨Nat.le_of_ble_eq_true rfl, Nat.le_of_ble_eq_true rfl⟩ ⟨Nat.le_of_ble_eq_true rfl, Nat.le_of_ble_eq_true rfl⟩) (fun x7 _ => ?_)
      refine zk_i2l (pc := 38) B dX12_tip_38 ?_
      refine zk_iload_n (pc := 39) B dX12_tip_39 2 rfl rfl ?_
      refine zk_i2l (pc := 40) B dX12_tip_40 ?_
      refine zk_ladd (pc := 41) B dX12_tip_41 ?_
      refine zk_ldc2 (pc := 42) B kl_12_419 dX12_tip_42 ?_
      refine zk_lcmp (pc := 45) B dX12_tip_45 ?_
      refine zk_if_le (tgt := 52) (pc := 46) B dX12_tip_46 (by decide) (fun _ => ?_) (fun _ => ?_)
      · refine zk_aload_n (pc := 52) B dX12_tip_52 0 rfl rfl ?_
        refine zk_cvm (pc := 53) (k' := 0) (n' := 0) B rfl rfl (Nat.le_of_ble_eq_true rfl) (Nat.le_of_ble_eq_true rfl) (fun b hb => zr_V B hR kV_yX12_records km_12_402 kx_12 (gModel_s ha) [] rfl rfl (Nat.le_of_ble_eq_true rfl) dX12_tip_53 (m_Model_records hX ha M5 b hb) ⟨Nat.le_of_ble_eq_true rfl, Nat.le_of_ble_eq_true rfl⟩ ⟨Nat.le_of_ble_eq_true rfl, Nat.le_of_ble_eq_true rfl⟩) (fun M8 => ?_)
        refine zk_aload_n (pc := 56) B dX12_tip_56 0 rfl rfl ?_
        refine zk_iload_n (pc := 57) B dX12_tip_57 1 rfl rfl ?_
        refine zk_iconst (v := 5) (pc := 58) B dX12_tip_58 (by decide) ?_
        refine zk_iload_n (pc := 59) B dX12_tip_59 2 rfl rfl ?_
        refine zk_cvm (pc := 60) (k' := 0) (n' := 0) B rfl rfl (Nat.le_of_ble_eq_true rfl) (Nat.le_of_ble_eq_true rfl) (fun b hb => zr_V B hR kV_yX12_grows km_12_336 kx_12 (gModel_s ha) [.int p0, .int 5, .int p1] rfl rfl (Nat.le_of_ble_eq_true rfl) dX12_tip_60 (m_Model_grows hX ha p0 5 p1 M8 b hb) ⟨Nat.le_of_ble_eq_true rfl, Nat.le_of_ble_eq_true rfl⟩ ⟨Nat.le_of_ble_eq_true rfl, Nat.le_of_ble_eq_true rfl⟩) (fun M9 => ?_)
        refine zk_aload_n (pc := 63) B dX12_tip_63 0 rfl rfl ?_
        refine zk_iload_n (pc := 64) B dX12_tip_64 1 rfl rfl ?_
        refine zk_bipush (v := 6) (pc := 65) B dX12_tip_65 (by decide) ?_
        refine zk_iload_n (pc := 67) B dX12_tip_67 2 rfl rfl ?_
        refine zk_cvm (pc := 68) (k' := 0) (n' := 0) B rfl rfl (Nat.le_of_ble_eq_true rfl) (Nat.le_of_ble_eq_true rfl) (fun b hb => zr_V B hR kV_yX12_grows km_12_336 kx_12 (gModel_s ha) [.int p0, .int 6, .int p1] rfl rfl (Nat.le_of_ble_eq_true rfl) dX12_tip_68 (m_Model_grows hX ha p0 6 p1 M9 b hb) ⟨Nat.le_of_ble_eq_true rfl, Nat.le_of_ble_eq_true rfl⟩ ⟨Nat.le_of_ble_eq_true rfl, Nat.le_of_ble_eq_true rfl⟩) (fun M10 => ?_)
        refine zk_aload_n (pc := 71) B dX12_tip_71 0 rfl rfl ?_
        refine zk_iload_n (pc := 72) B dX12_tip_72 1 rfl rfl ?_
        refine zk_iconst (v := 5) (pc := 73) B dX12_tip_73 (by decide) ?_
        refine zk_cpi (pc := 74) (k' := 0) (n' := 0) B rfl rfl (Nat.le_of_ble_eq_true rfl) (Nat.le_of_ble_eq_true rfl) (fun b hb => zr_V B hR kV_yX12_in2 km_12_268 kx_12 (gModel_s ha) [.int p0, .int 5] rfl rfl (Nat.le_of_ble_eq_true rfl) dX12_tip_74 (m_Model_in2 hX ha p0 5 M10 b hb) ⟨Nat.le_of_ble_eq_true rfl, Nat.le_of_ble_eq_true rfl⟩ ⟨Nat.le_of_ble_eq_true rfl, Nat.le_of_ble_eq_true rfl⟩) (fun x11 _ => ?_)
        exact zk_iret (pc := 77) B dX12_tip_77 rfl rfl (Nat.le_of_ble_eq_true rfl) (Nat.le_of_ble_eq_true rfl) rfl
      · refine zk_bipush (v := (-5)) (pc := 49) B dX12_tip_49 (by decide) ?_
        exact zk_iret (pc := 51) B dX12_tip_51 rfl rfl (Nat.le_of_ble_eq_true rfl) (Nat.le_of_ble_eq_true rfl) rfl
    · refine zk_iconst (v := 0) (pc := 30) B dX12_tip_30 (by decide) ?_
      exact zk_iret (pc := 31) B dX12_tip_31 rfl rfl (Nat.le_of_ble_eq_true rfl) (Nat.le_of_ble_eq_true rfl) rfl
set_option maxHeartbeats 4000000 in
set_option maxRecDepth 100000 in
theorem m_Model_setRate {X : z_X} (hX : z_ok X) {G : z_Gr} {a : Nat} (ha : g_Model G a) (p0 : Int32) (M : z_Mem) (b : Int32 × z_Mem) (h : F_Model_setRate a p0 M = some b) : z_Ct X yX12_setRate cX12_setRate 3 (some .int) ({ frames := 1, cells := 0, slots := 0, locals := 25 } : Room) [.ref a, .int p0] G M (fun o9 G9 M9 => G9 = G ∧ (o9, M9) = z_cim b) := by
  refine z_enter hX (by decide) (Nat.le_of_ble_eq_true rfl) h (fun F B hR => ?_)
  show z_K X F 3 0 0 G z_cim b 0 0 0 [(0, .ref a), (1, .int p0)] [] M (F_Model_setRate a p0 M)
  unfold F_Model_setRate
  refine zk_aload_n (pc := 0) B dX12_setRate_0 0 rfl rfl ?_
  refine zk_iconst (v := 0) (pc := 1) B dX12_setRate_1 (by decide) ?_
  refine zk_puti (pc := 2) B kx_12 (gModel_s ha) 0 (by decide) kf_12_93 rfl rfl rfl rfl dX12_setRate_2 ?_
  refine zk_lm (fun M1 => ?_)
  refine zk_aload_n (pc := 5) B dX12_setRate_5 0 rfl rfl ?_
  refine zk_iload_n (pc := 6) B dX12_setRate_6 1 rfl rfl ?_
  refine zk_i2l (pc := 7) B dX12_setRate_7 ?_
  refine zk_lconst (v := 0) (pc := 8) B dX12_setRate_8 (by decide) ?_
  refine zk_ldc2 (pc := 9) B kl_12_421 dX12_setRate_9 ?_
  refine zk_cpi (pc := 12) (k' := 0) (n' := 0) B rfl rfl (Nat.le_of_ble_eq_true rfl) (Nat.le_of_ble_eq_true rfl) (fun b hb => zr_S B hR kS_yX12_in km_12_197 [.long p0.toInt64, .long 0, .long 999] rfl rfl (Nat.le_of_ble_eq_true rfl) dX12_setRate_12 (m_Model_in hX p0.toInt64 0 999 M1 b hb) ⟨Nat.le_of_ble_eq_true rfl, Nat.le_of_ble_eq_true rfl⟩ ⟨Nat.le_of_ble_eq_true rfl, Nat.le_of_ble_eq_true rfl⟩) (fun x2 _ => ?_)
  refine zk_iconst (v := 1) (pc := 15) B dX12_setRate_15 (by decide) ?_
  refine zk_cim (pc := 16) (k' := 0) (n' := 0) B rfl rfl (Nat.le_of_ble_eq_true rfl) (Nat.le_of_ble_eq_true rfl) (fun b hb => zr_V B hR kV_yX12_fails km_12_256 kx_12 (gModel_s ha) [.int x2, .int 1] rfl rfl (Nat.le_of_ble_eq_true rfl) dX12_setRate_16 (m_Model_fails hX ha x2 1 M1 b hb) ⟨Nat.le_of_ble_eq_true rfl, Nat.le_of_ble_eq_true rfl⟩ ⟨Nat.le_of_ble_eq_true rfl, Nat.le_of_ble_eq_true rfl⟩) (fun x4 M3 => ?_)
  refine zk_if_eq (tgt := 24) (pc := 19) B dX12_setRate_19 (by decide) (fun _ => ?_) (fun _ => ?_)
  · refine zk_aload_n (pc := 24) B dX12_setRate_24 0 rfl rfl ?_
    refine zk_cvm (pc := 25) (k' := 0) (n' := 0) B rfl rfl (Nat.le_of_ble_eq_true rfl) (Nat.le_of_ble_eq_true rfl) (fun b hb => zr_V B hR kV_yX12_records km_12_402 kx_12 (gModel_s ha) [] rfl rfl (Nat.le_of_ble_eq_true rfl) dX12_setRate_25 (m_Model_records hX ha M3 b hb) ⟨Nat.le_of_ble_eq_true rfl, Nat.le_of_ble_eq_true rfl⟩ ⟨Nat.le_of_ble_eq_true rfl, Nat.le_of_ble_eq_true rfl⟩) (fun M5 => ?_)
    refine zk_aload_n (pc := 28) B dX12_setRate_28 0 rfl rfl ?_
    refine zk_getr (pc := 29) B kx_12 (gModel_s ha) 1 (by decide) kf_12_7 rfl (gModel_f1 ha) dX12_setRate_29 ?_
    refine zk_iconst (v := 2) (pc := 32) B dX12_setRate_32 (by decide) ?_
    refine zk_iald (pc := 33) B (gModel_t1 ha) dX12_setRate_33 ?_
    refine zk_li (fun x6 => ?_)
    refine zk_istore_n (loc' := [(2, .int x6), (0, .ref a), (1, .int p0)]) (pc := 34) B dX12_setRate_34 rfl (by decide) rfl ?_
    refine zk_aload_n (pc := 35) B dX12_setRate_35 1 rfl rfl ?_
    refine zk_getr (pc := 36) B kx_12 (gModel_s ha) 1 (by decide) kf_12_7 rfl (gModel_f1 ha) dX12_setRate_36 ?_
    refine zk_iconst (v := 2) (pc := 39) B dX12_setRate_39 (by decide) ?_
    refine zk_iload_n (pc := 40) B dX12_setRate_40 2 rfl rfl ?_
    refine zk_iast (pc := 41) B (gModel_t1 ha) dX12_setRate_41 ?_
    refine zk_lm (fun M7 => ?_)
    refine zk_iload_n (pc := 42) B dX12_setRate_42 0 rfl rfl ?_
    exact zk_iret (pc := 43) B dX12_setRate_43 rfl rfl (Nat.le_of_ble_eq_true rfl) (Nat.le_of_ble_eq_true rfl) rfl
  · refine zk_iconst (v := 0) (pc := 22) B dX12_setRate_22 (by decide) ?_
    exact zk_iret (pc := 23) B dX12_setRate_23 rfl rfl (Nat.le_of_ble_eq_true rfl) (Nat.le_of_ble_eq_true rfl) rfl
set_option maxHeartbeats 4000000 in
set_option maxRecDepth 100000 in
theorem m_Model_setEnd {X : z_X} (hX : z_ok X) {G : z_Gr} {a : Nat} (ha : g_Model G a) (p0 : Int32) (p1 : Int32) (M : z_Mem) (b : Int32 × z_Mem) (h : F_Model_setEnd a p0 p1 M = some b) : z_Ct X yX12_setEnd cX12_setEnd 4 (some .int) ({ frames := 2, cells := 0, slots := 0, locals := 46 } : Room) [.ref a, .int p0, .int p1] G M (fun o9 G9 M9 => G9 = G ∧ (o9, M9) = z_cim b) := by
  refine z_enter hX (by decide) (Nat.le_of_ble_eq_true rfl) h (fun F B hR => ?_)
  show z_K X F 4 0 0 G z_cim b 0 0 0 [(0, .ref a), (1, .int p0), (2, .int p1)] [] M (F_Model_setEnd a p0 p1 M)
  unfold F_Model_setEnd
  refine zk_aload_n (pc := 0) B dX12_setEnd_0 0 rfl rfl ?_
  refine zk_iconst (v := 0) (pc := 1) B dX12_setEnd_1 (by decide) ?_
  refine zk_puti (pc := 2) B kx_12 (gModel_s ha) 0 (by decide) kf_12_93 rfl rfl rfl rfl dX12_setEnd_2 ?_
  refine zk_lm (fun M1 => ?_)
  refine zk_aload_n (pc := 5) B dX12_setEnd_5 0 rfl rfl ?_
  refine zk_iload_n (pc := 6) B dX12_setEnd_6 1 rfl rfl ?_
  refine zk_cim (pc := 7) (k' := 0) (n' := 0) B rfl rfl (Nat.le_of_ble_eq_true rfl) (Nat.le_of_ble_eq_true rfl) (fun b hb => zr_V B hR kV_yX12_noTaxi km_12_375 kx_12 (gModel_s ha) [.int p0] rfl rfl (Nat.le_of_ble_eq_true rfl) dX12_setEnd_7 (m_Model_noTaxi hX ha p0 M1 b hb) ⟨Nat.le_of_ble_eq_true rfl, Nat.le_of_ble_eq_true rfl⟩ ⟨Nat.le_of_ble_eq_true rfl, Nat.le_of_ble_eq_true rfl⟩) (fun x3 M2 => ?_)
  refine zk_if_ne (tgt := 38) (pc := 10) B dX12_setEnd_10 (by decide) (fun _ => ?_) (fun _ => ?_)
  · refine zk_iconst (v := 0) (pc := 38) B dX12_setEnd_38 (by decide) ?_
    exact zk_iret (pc := 39) B dX12_setEnd_39 rfl rfl (Nat.le_of_ble_eq_true rfl) (Nat.le_of_ble_eq_true rfl) rfl
  · refine zk_aload_n (pc := 13) B dX12_setEnd_13 0 rfl rfl ?_
    refine zk_iload_n (pc := 14) B dX12_setEnd_14 2 rfl rfl ?_
    refine zk_i2l (pc := 15) B dX12_setEnd_15 ?_
    refine zk_aload_n (pc := 16) B dX12_setEnd_16 0 rfl rfl ?_
    refine zk_getr (pc := 17) B kx_12 (gModel_s ha) 21 (by decide) kf_12_40 rfl (gModel_f21 ha) dX12_setEnd_17 ?_
    refine zk_iload_n (pc := 20) B dX12_setEnd_20 1 rfl rfl ?_
    refine zk_iald (pc := 21) B (gModel_t21 ha) dX12_setEnd_21 ?_
    refine zk_iconst (v := 1) (pc := 22) B dX12_setEnd_22 (by decide) ?_
    refine zk_iadd (pc := 23) B dX12_setEnd_23 ?_
    refine zk_i2l (pc := 24) B dX12_setEnd_24 ?_
    refine zk_ldc2 (pc := 25) B kl_12_219 dX12_setEnd_25 ?_
    refine zk_cpi (pc := 28) (k' := 0) (n' := 0) B rfl rfl (Nat.le_of_ble_eq_true rfl) (Nat.le_of_ble_eq_true rfl) (fun b hb => zr_S B hR kS_yX12_in km_12_197 [.long p1.toInt64, .long (((M2.1 (a + 11) p0.toNatClampNeg) + 1).toInt64), .long 2879] rfl rfl (Nat.le_of_ble_eq_true rfl) dX12_setEnd_28 (m_Model_in hX p1.toInt64 (((M2.1 (a + 11) p0.toNatClampNeg) + 1).toInt64) 2879 M2 b hb) ⟨Nat.le_of_ble_eq_true rfl, Nat.le_of_ble_eq_true rfl⟩ ⟨Nat.le_of_ble_eq_true rfl, Nat.le_of_ble_eq_true rfl⟩) (fun x4 _ => ?_)
    refine zk_iconst (v := 2) (pc := 31) B dX12_setEnd_31 (by decide) ?_
    refine zk_cim (pc := 32) (k' := 0) (n' := 0) B rfl rfl (Nat.le_of_ble_eq_true rfl) (Nat.le_of_ble_eq_true rfl) (fun b hb => zr_V B hR kV_yX12_fails km_12_256 kx_12 (gModel_s ha) [.int x4, .int 2] rfl rfl (Nat.le_of_ble_eq_true rfl) dX12_setEnd_32 (m_Model_fails hX ha x4 2 M2 b hb) ⟨Nat.le_of_ble_eq_true rfl, Nat.le_of_ble_eq_true rfl⟩ ⟨Nat.le_of_ble_eq_true rfl, Nat.le_of_ble_eq_true rfl⟩) (fun x6 M5 => ?_)
    refine zk_if_eq (tgt := 40) (pc := 35) B dX12_setEnd_35 (by decide) (fun _ => ?_) (fun _ => ?_)
    · refine zk_aload_n (pc := 40) B dX12_setEnd_40 0 rfl rfl ?_
      refine zk_cvm (pc := 41) (k' := 0) (n' := 0) B rfl rfl (Nat.le_of_ble_eq_true rfl) (Nat.le_of_ble_eq_true rfl) (fun b hb => zr_V B hR kV_yX12_records km_12_402 kx_12 (gModel_s ha) [] rfl rfl (Nat.le_of_ble_eq_true rfl) dX12_setEnd_41 (m_Model_records hX ha M5 b hb) ⟨Nat.le_of_ble_eq_true rfl, Nat.le_of_ble_eq_true rfl⟩ ⟨Nat.le_of_ble_eq_true rfl, Nat.le_of_ble_eq_true rfl⟩) (fun M7 => ?_)
      refine zk_aload_n (pc := 44) B dX12_setEnd_44 0 rfl rfl ?_
      refine zk_iload_n (pc := 45) B dX12_setEnd_45 1 rfl rfl ?_
      refine zk_iconst (v := 4) (pc := 46) B dX12_setEnd_46 (by decide) ?_
      refine zk_cpi (pc := 47) (k' := 0) (n' := 0) B rfl rfl (Nat.le_of_ble_eq_true rfl) (Nat.le_of_ble_eq_true rfl) (fun b hb => zr_V B hR kV_yX12_in2 km_12_268 kx_12 (gModel_s ha) [.int p0, .int 4] rfl rfl (Nat.le_of_ble_eq_true rfl) dX12_setEnd_47 (m_Model_in2 hX ha p0 4 M7 b hb) ⟨Nat.le_of_ble_eq_true rfl, Nat.le_of_ble_eq_true rfl⟩ ⟨Nat.le_of_ble_eq_true rfl, Nat.le_of_ble_eq_true rfl⟩) (fun x8 _ => ?_)
      refine zk_istore_n (loc' := [(3, .int x8), (0, .ref a), (1, .int p0), (2, .int p1)]) (pc := 50) B dX12_setEnd_50 rfl (by decide) rfl ?_
      refine zk_aload_n (pc := 51) B dX12_setEnd_51 1 rfl rfl ?_
      refine zk_iload_n (pc := 52) B dX12_setEnd_52 2 rfl rfl ?_
      refine zk_iconst (v := 4) (pc := 53) B dX12_setEnd_53 (by decide) ?_
      refine zk_iload_n (pc := 54) B dX12_setEnd_54 3 rfl rfl ?_
      refine zk_cvm (pc := 55) (k' := 0) (n' := 0) B rfl rfl (Nat.le_of_ble_eq_true rfl) (Nat.le_of_ble_eq_true rfl) (fun b hb => zr_V B hR kV_yX12_lays2 km_12_326 kx_12 (gModel_s ha) [.int p0, .int 4, .int p1] rfl rfl (Nat.le_of_ble_eq_true rfl) dX12_setEnd_55 (m_Model_lays2 hX ha p0 4 p1 M7 b hb) ⟨Nat.le_of_ble_eq_true rfl, Nat.le_of_ble_eq_true rfl⟩ ⟨Nat.le_of_ble_eq_true rfl, Nat.le_of_ble_eq_true rfl⟩) (fun M9 => ?_)
      refine zk_iload_n (pc := 58) B dX12_setEnd_58 0 rfl rfl ?_
      exact zk_iret (pc := 59) B dX12_setEnd_59 rfl rfl (Nat.le_of_ble_eq_true rfl) (Nat.le_of_ble_eq_true rfl) rfl
    · refine zk_iconst (v := 0) (pc := 38) B dX12_setEnd_38 (by decide) ?_
      exact zk_iret (pc := 39) B dX12_setEnd_39 rfl rfl (Nat.le_of_ble_eq_true rfl) (Nat.le_of_ble_eq_true rfl) rfl
set_option maxHeartbeats 4000000 in
set_option maxRecDepth 100000 in
theorem m_Model_setRule {X : z_X} (hX : z_ok X) {G : z_Gr} {a : Nat} (ha : g_Model G a) (p0 : Int32) (p1 : Int32) (M : z_Mem) (b : Int32 × z_Mem) (h : F_Model_setRule a p0 p1 M = some b) : z_Ct X yX12_setRule cX12_setRule 4 (some .int) ({ frames := 1, cells := 0, slots := 0, locals := 25 } : Room) [.ref a, .int p0, .int p1] G M (fun o9 G9 M9 => G9 = G ∧ (o9, M9) = z_cim b) := by
  refine z_enter hX (by decide) (Nat.le_of_ble_eq_true rfl) h (fun F B hR => ?_)
  show z_K X F 4 0 0 G z_cim b 0 0 0 [(0, .ref a), (1, .int p0), (2, .int p1)] [] M (F_Model_setRule a p0 p1 M)
  unfold F_Model_setRule
  refine zk_aload_n (pc := 0) B dX12_setRule_0 0 rfl rfl ?_
  refine zk_iconst (v := 0) (pc := 1) B dX12_setRule_1 (by decide) ?_
  refine zk_puti (pc := 2) B kx_12 (gModel_s ha) 0 (by decide) kf_12_93 rfl rfl rfl rfl dX12_setRule_2 ?_
  refine zk_lm (fun M1 => ?_)
  refine zk_aload_n (pc := 5) B dX12_setRule_5 0 rfl rfl ?_
  refine zk_iload_n (pc := 6) B dX12_setRule_6 1 rfl rfl ?_
  refine zk_i2l (pc := 7) B dX12_setRule_7 ?_
  refine zk_lconst (v := 0) (pc := 8) B dX12_setRule_8 (by decide) ?_
  refine zk_ldc2 (pc := 9) B kl_12_370 dX12_setRule_9 ?_
  refine zk_cpi (pc := 12) (k' := 0) (n' := 0) B rfl rfl (Nat.le_of_ble_eq_true rfl) (Nat.le_of_ble_eq_true rfl) (fun b hb => zr_S B hR kS_yX12_in km_12_197 [.long p0.toInt64, .long 0, .long 9] rfl rfl (Nat.le_of_ble_eq_true rfl) dX12_setRule_12 (m_Model_in hX p0.toInt64 0 9 M1 b hb) ⟨Nat.le_of_ble_eq_true rfl, Nat.le_of_ble_eq_true rfl⟩ ⟨Nat.le_of_ble_eq_true rfl, Nat.le_of_ble_eq_true rfl⟩) (fun x2 _ => ?_)
  refine zk_iconst (v := 1) (pc := 15) B dX12_setRule_15 (by decide) ?_
  refine zk_cim (pc := 16) (k' := 0) (n' := 0) B rfl rfl (Nat.le_of_ble_eq_true rfl) (Nat.le_of_ble_eq_true rfl) (fun b hb => zr_V B hR kV_yX12_fails km_12_256 kx_12 (gModel_s ha) [.int x2, .int 1] rfl rfl (Nat.le_of_ble_eq_true rfl) dX12_setRule_16 (m_Model_fails hX ha x2 1 M1 b hb) ⟨Nat.le_of_ble_eq_true rfl, Nat.le_of_ble_eq_true rfl⟩ ⟨Nat.le_of_ble_eq_true rfl, Nat.le_of_ble_eq_true rfl⟩) (fun x4 M3 => ?_)
  refine zk_if_ne (tgt := 45) (pc := 19) B dX12_setRule_19 (by decide) (fun _ => ?_) (fun _ => ?_)
  · refine zk_iconst (v := 0) (pc := 45) B dX12_setRule_45 (by decide) ?_
    exact zk_iret (pc := 46) B dX12_setRule_46 rfl rfl (Nat.le_of_ble_eq_true rfl) (Nat.le_of_ble_eq_true rfl) rfl
  · refine zk_aload_n (pc := 22) B dX12_setRule_22 0 rfl rfl ?_
    refine zk_iload_n (pc := 23) B dX12_setRule_23 2 rfl rfl ?_
    refine zk_i2l (pc := 24) B dX12_setRule_24 ?_
    refine zk_iload_n (pc := 25) B dX12_setRule_25 1 rfl rfl ?_
    refine zk_cpi (pc := 26) (k' := 0) (n' := 0) B rfl rfl (Nat.le_of_ble_eq_true rfl) (Nat.le_of_ble_eq_true rfl) (fun b hb => zr_S B hR kS_yX12_least km_12_225 [.int p0] rfl rfl (Nat.le_of_ble_eq_true rfl) dX12_setRule_26 (m_Model_least hX p0 M3 b hb) ⟨Nat.le_of_ble_eq_true rfl, Nat.le_of_ble_eq_true rfl⟩ ⟨Nat.le_of_ble_eq_true rfl, Nat.le_of_ble_eq_true rfl⟩) (fun x5 _ => ?_)
    refine zk_i2l (pc := 29) B dX12_setRule_29 ?_
    refine zk_iload_n (pc := 30) B dX12_setRule_30 1 rfl rfl ?_
    refine zk_cpi (pc := 31) (k' := 0) (n' := 0) B rfl rfl (Nat.le_of_ble_eq_true rfl) (Nat.le_of_ble_eq_true rfl) (fun b hb => zr_S B hR kS_yX12_most km_12_228 [.int p0] rfl rfl (Nat.le_of_ble_eq_true rfl) dX12_setRule_31 (m_Model_most hX p0 M3 b hb) ⟨Nat.le_of_ble_eq_true rfl, Nat.le_of_ble_eq_true rfl⟩ ⟨Nat.le_of_ble_eq_true rfl, Nat.le_of_ble_eq_true rfl⟩) (fun x6 _ => ?_)
    refine zk_i2l (pc := 34) B dX12_setRule_34 ?_
    refine zk_cpi (pc := 35) (k' := 0) (n' := 0) B rfl rfl (Nat.le_of_ble_eq_true rfl) (Nat.le_of_ble_eq_true rfl) (fun b hb => zr_S B hR kS_yX12_in km_12_197 [.long p1.toInt64, .long x5.toInt64, .long x6.toInt64] rfl rfl (Nat.le_of_ble_eq_true rfl) dX12_setRule_35 (m_Model_in hX p1.toInt64 x5.toInt64 x6.toInt64 M3 b hb) ⟨Nat.le_of_ble_eq_true rfl, Nat.le_of_ble_eq_true rfl⟩ ⟨Nat.le_of_ble_eq_true rfl, Nat.le_of_ble_eq_true rfl⟩) (fun x7 _ => ?_)
    refine zk_iconst (v := 2) (pc := 38) B dX12_setRule_38 (by decide) ?_
    refine zk_cim (pc := 39) (k' := 0) (n' := 0) B rfl rfl (Nat.le_of_ble_eq_true rfl) (Nat.le_of_ble_eq_true rfl) (fun b hb => zr_V B hR kV_yX12_fails km_12_256 kx_12 (gModel_s ha) [.int x7, .int 2] rfl rfl (Nat.le_of_ble_eq_true rfl) dX12_setRule_39 (m_Model_fails hX ha x7 2 M3 b hb) ⟨Nat.le_of_ble_eq_true rfl, Nat.le_of_ble_eq_true rfl⟩ ⟨Nat.le_of_ble_eq_true rfl, Nat.le_of_ble_eq_true rfl⟩) (fun x9 M8 => ?_)
    refine zk_if_eq (tgt := 47) (pc := 42) B dX12_setRule_42 (by decide) (fun _ => ?_) (fun _ => ?_)
    · refine zk_aload_n (pc := 47) B dX12_setRule_47 0 rfl rfl ?_
      refine zk_cvm (pc := 48) (k' := 0) (n' := 0) B rfl rfl (Nat.le_of_ble_eq_true rfl) (Nat.le_of_ble_eq_true rfl) (fun b hb => zr_V B hR kV_yX12_records km_12_402 kx_12 (gModel_s ha) [] rfl rfl (Nat.le_of_ble_eq_true rfl) dX12_setRule_48 (m_Model_records hX ha M8 b hb) ⟨Nat.le_of_ble_eq_true rfl, Nat.le_of_ble_eq_true rfl⟩ ⟨Nat.le_of_ble_eq_true rfl, Nat.le_of_ble_eq_true rfl⟩) (fun M10 => ?_)
      refine zk_aload_n (pc := 51) B dX12_setRule_51 0 rfl rfl ?_
      refine zk_iload_n (pc := 52) B dX12_setRule_52 1 rfl rfl ?_
      refine zk_cpi (pc := 53) (k' := 0) (n' := 0) B rfl rfl (Nat.le_of_ble_eq_true rfl) (Nat.le_of_ble_eq_true rfl) (fun b hb => zr_V B hR kV_yX12_ruled km_12_292 kx_12 (gModel_s ha) [.int p0] rfl rfl (Nat.le_of_ble_eq_true rfl) dX12_setRule_53 (m_Model_ruled hX ha p0 M10 b hb) ⟨Nat.le_of_ble_eq_true rfl, Nat.le_of_ble_eq_true rfl⟩ ⟨Nat.le_of_ble_eq_true rfl, Nat.le_of_ble_eq_true rfl⟩) (fun x11 _ => ?_)
      refine zk_istore_n (loc' := [(3, .int x11), (0, .ref a), (1, .int p0), (2, .int p1)]) (pc := 56) B dX12_setRule_56 rfl (by decide) rfl ?_
      refine zk_aload_n (pc := 57) B dX12_setRule_57 1 rfl rfl ?_
      refine zk_getr (pc := 58) B kx_12 (gModel_s ha) 1 (by decide) kf_12_7 rfl (gModel_f1 ha) dX12_setRule_58 ?_
      refine zk_iconst (v := 3) (pc := 61) B dX12_setRule_61 (by decide) ?_
      refine zk_iload_n (pc := 62) B dX12_setRule_62 2 rfl rfl ?_
      refine zk_iadd (pc := 63) B dX12_setRule_63 ?_
      refine zk_iload_n (pc := 64) B dX12_setRule_64 3 rfl rfl ?_
      refine zk_iast (pc := 65) B (gModel_t1 ha) dX12_setRule_65 ?_
      refine zk_lm (fun M12 => ?_)
      refine zk_iload_n (pc := 66) B dX12_setRule_66 0 rfl rfl ?_
      exact zk_iret (pc := 67) B dX12_setRule_67 rfl rfl (Nat.le_of_ble_eq_true rfl) (Nat.le_of_ble_eq_true rfl) rfl
    · refine zk_iconst (v := 0) (pc := 45) B dX12_setRule_45 (by decide) ?_
      exact zk_iret (pc := 46) B dX12_setRule_46 rfl rfl (Nat.le_of_ble_eq_true rfl) (Nat.le_of_ble_eq_true rfl) rfl
set_option maxHeartbeats 4000000 in
set_option maxRecDepth 100000 in
theorem m_Model_undoCount {X : z_X} (hX : z_ok X) {G : z_Gr} {a : Nat} (ha : g_Model G a) (M : z_Mem) (b : Int32 × z_Mem) (h : F_Model_undoCount a M = some b) : z_Ct X yX12_undoCount cX12_undoCount 1 (some .int) ({ frames := 0, cells := 0, slots := 0, locals := 0 } : Room) [.ref a] G M (fun o9 G9 M9 => G9 = G ∧ (o9, M9) = z_cim b) := by
  refine z_enter hX (by decide) (Nat.le_of_ble_eq_true rfl) h (fun F B hR => ?_)
  show z_K X F 1 0 0 G z_cim b 0 0 0 [(0, .ref a)] [] M (F_Model_undoCount a M)
  unfold F_Model_undoCount
  refine zk_aload_n (pc := 0) B dX12_undoCount_0 0 rfl rfl ?_
  refine zk_iconst (v := 0) (pc := 1) B dX12_undoCount_1 (by decide) ?_
  refine zk_puti (pc := 2) B kx_12 (gModel_s ha) 0 (by decide) kf_12_93 rfl rfl rfl rfl dX12_undoCount_2 ?_
  refine zk_lm (fun M1 => ?_)
  refine zk_aload_n (pc := 5) B dX12_undoCount_5 0 rfl rfl ?_
  refine zk_geti (pc := 6) B kx_12 (gModel_s ha) 6 (by decide) kf_12_123 rfl dX12_undoCount_6 ?_
  exact zk_iret (pc := 9) B dX12_undoCount_9 rfl rfl (Nat.le_of_ble_eq_true rfl) (Nat.le_of_ble_eq_true rfl) rfl
set_option maxHeartbeats 4000000 in
set_option maxRecDepth 100000 in
theorem m_Model_undo {X : z_X} (hX : z_ok X) {G : z_Gr} {a : Nat} (ha : g_Model G a) (M : z_Mem) (b : Int32 × z_Mem) (h : F_Model_undo a M = some b) : z_Ct X yX12_undo cX12_undo 2 (some .int) ({ frames := 0, cells := 0, slots := 0, locals := 0 } : Room) [.ref a] G M (fun o9 G9 M9 => G9 = G ∧ (o9, M9) = z_cim b) := by
  refine z_enter hX (by decide) (Nat.le_of_ble_eq_true rfl) h (fun F B hR => ?_)
  have L26 : ∀ (nf26 : Nat), ∀ (v1 : Int32) (M : z_Mem), z_K X F 2 0 0 G z_cim b 0 0 26 [(0, .ref a), (1, .int v1)] [] M (F_Model_undo_L26 a nf26 v1 M) := by
    intro nf26
    induction nf26 with
    | zero => intro v1 M; exact zk_none
    | succ nf26 ih26 =>
      intro v1 M
      show z_K X F 2 0 0 G z_cim b 0 0 26 [(0, .ref a), (1, .int v1)] [] M (F_Model_undo_B26 a (F_Model_undo_L26 a nf26) v1 M)
      unfold F_Model_undo_B26
      refine zk_iload_n (pc := 26) B dX12_undo_26 1 rfl rfl ?_
      refine zk_sipush (v := 581) (pc := 27) B dX12_undo_27 (by decide) ?_
      refine zk_icmp_ge (tgt := 60) (pc := 30) B dX12_undo_30 (by decide) (fun _ => ?_) (fun _ => ?_)
      · refine zk_aload_n (pc := 60) B dX12_undo_60 0 rfl rfl ?_
        refine zk_geti (pc := 61) B kx_12 (gModel_s ha) 6 (by decide) kf_12_123 rfl dX12_undo_61 ?_
        exact zk_iret (pc := 64) B dX12_undo_64 rfl rfl (Nat.le_of_ble_eq_true rfl) (Nat.le_of_ble_eq_true rfl) rfl
      · refine zk_aload_n (pc := 33) B dX12_undo_33 0 rfl rfl ?_
        refine zk_getr (pc := 34) B kx_12 (gModel_s ha) 1 (by decide) kf_12_7 rfl (gModel_f1 ha) dX12_undo_34 ?_
        refine zk_iload_n (pc := 37) B dX12_undo_37 1 rfl rfl ?_
        refine zk_aload_n (pc := 38) B dX12_undo_38 0 rfl rfl ?_
        refine zk_getr (pc := 39) B kx_12 (gModel_s ha) 4 (by decide) kf_12_19 rfl (gModel_f4 ha) dX12_undo_39 ?_
        refine zk_sipush (v := 581) (pc := 42) B dX12_undo_42 (by decide) ?_
        refine zk_aload_n (pc := 45) B dX12_undo_45 0 rfl rfl ?_
        refine zk_geti (pc := 46) B kx_12 (gModel_s ha) 6 (by decide) kf_12_123 rfl dX12_undo_46 ?_
        refine zk_imul (pc := 49) B dX12_undo_49 ?_
        refine zk_iload_n (pc := 50) B dX12_undo_50 1 rfl rfl ?_
        refine zk_iadd (pc := 51) B dX12_undo_51 ?_
        refine zk_iald (pc := 52) B (gModel_t4 ha) dX12_undo_52 ?_
        refine zk_iast (pc := 53) B (gModel_t1 ha) dX12_undo_53 ?_
        refine zk_lm (fun M3 => ?_)
        refine zk_iinc (y := 1) (lf := fun x4 => [(1, .int x4), (0, .ref a)]) (pc := 54) B dX12_undo_54 1 rfl (by decide) (by decide) (fun _ => rfl) (fun x4 => ?_)
        refine zk_goto (tgt := 26) (pc := 57) B dX12_undo_57 (by decide) ?_
        refine zk_sub [1, 0] rfl ?_
        exact ih26 x4 M3
  show z_K X F 2 0 0 G z_cim b 0 0 0 [(0, .ref a)] [] M (F_Model_undo a M)
  unfold F_Model_undo
  refine zk_aload_n (pc := 0) B dX12_undo_0 0 rfl rfl ?_
  refine zk_iconst (v := 0) (pc := 1) B dX12_undo_1 (by decide) ?_
  refine zk_puti (pc := 2) B kx_12 (gModel_s ha) 0 (by decide) kf_12_93 rfl rfl rfl rfl dX12_undo_2 ?_
  refine zk_lm (fun M1 => ?_)
  refine zk_aload_n (pc := 5) B dX12_undo_5 0 rfl rfl ?_
  refine zk_geti (pc := 6) B kx_12 (gModel_s ha) 6 (by decide) kf_12_123 rfl dX12_undo_6 ?_
  refine zk_if_ne (tgt := 14) (pc := 9) B dX12_undo_9 (by decide) (fun _ => ?_) (fun _ => ?_)
  · refine zk_aload_n (pc := 14) B dX12_undo_14 0 rfl rfl ?_
    refine zk_dup (pc := 15) B dX12_undo_15 rfl ?_
    refine zk_geti (pc := 16) B kx_12 (gModel_s ha) 6 (by decide) kf_12_123 rfl dX12_undo_16 ?_
    refine zk_iconst (v := 1) (pc := 19) B dX12_undo_19 (by decide) ?_
    refine zk_isub (pc := 20) B dX12_undo_20 ?_
    refine zk_puti (pc := 21) B kx_12 (gModel_s ha) 6 (by decide) kf_12_123 rfl rfl rfl rfl dX12_undo_21 ?_
    refine zk_lm (fun M2 => ?_)
    refine zk_iconst (v := 0) (pc := 24) B dX12_undo_24 (by decide) ?_
    refine zk_istore_n (loc' := [(1, .int 0), (0, .ref a)]) (pc := 25) B dX12_undo_25 rfl (by decide) rfl ?_
    refine zk_sub [1, 0] rfl ?_
    exact L26 10000 0 M2
  · refine zk_iconst (v := (-1)) (pc := 12) B dX12_undo_12 (by decide) ?_
    exact zk_iret (pc := 13) B dX12_undo_13 rfl rfl (Nat.le_of_ble_eq_true rfl) (Nat.le_of_ble_eq_true rfl) rfl
