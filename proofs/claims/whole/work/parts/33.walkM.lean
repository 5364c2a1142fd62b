/-! ===== walks of the reference (by program) ===== -/
set_option maxHeartbeats 4000000 in
set_option maxRecDepth 100000 in
theorem m_Model_insertsAt {X : z_X} (hX : z_ok X) {G : z_Gr} {a : Nat} (ha : g_Model G a) (p0 : Int32) (p1 : Int32) (p2 : Int32) (p3 : Int32) (M : z_Mem) (b : z_Mem) (h : F_Model_insertsAt a p0 p1 p2 p3 M = some b) : z_Ct X yX12_insertsAt cX12_insertsAt 8 none ({ frames := 1, cells := 0, slots := 0, locals := 22 } : Room) [.ref a, .int p0, .int p1, .int p2, .int p3] G M (fun o9 G9 M9 => G9 = G ∧ (o9, M9) = z_cvm b) := by
  refine z_enter hX (by decide) (Nat.le_of_ble_eq_true rfl) h (fun F B hR => ?_)
  have L23 : ∀ (nf23 : Nat), ∀ (v1 : Int32) (v2 : Int32) (v3 : Int32) (v4 : Int32) (v6 : Int32) (v7 : Int32) (M : z_Mem), z_K X F 8 0 0 G z_cvm b 0 0 23 [(0, .ref a), (1, .int v1), (2, .int v2), (3, .int v3), (4, .int v4), (6, .int v6), (7, .int v7)] [] M (F_Model_insertsAt_L23 a nf23 v1 v2 v3 v4 v6 v7 M) := by
    intro nf23
    induction nf23 with
    | zero => intro v1 v2 v3 v4 v6 v7 M; exact zk_none
    | succ nf23 ih23 =>
      intro v1 v2 v3 v4 v6 v7 M
      show z_K X F 8 0 0 G z_cvm b 0 0 23 [(0, .ref a), (1, .int v1), (2, .int v2), (3, .int v3), (4, .int v4), (6, .int v6), (7, .int v7)] [] M (F_Model_insertsAt_B23 a (F_Model_insertsAt_L23 a nf23) v1 v2 v3 v4 v6 v7 M)
      unfold F_Model_insertsAt_B23
      refine zk_iload (pc := 23) B dX12_insertsAt_23 6 rfl ?_
      refine zk_aload_n (pc := 25) B dX12_insertsAt_25 0 rfl rfl ?_
      refine zk_geti (pc := 26) B kx_12 (gModel_s ha) 39 (by decide) kf_12_271 rfl dX12_insertsAt_26 ?_
      refine zk_icmp_ge (tgt := 99) (pc := 29) B dX12_insertsAt_29 (by decide) (fun _ => ?_) (fun _ => ?_)
      · exact zk_vret (pc := 99) B dX12_insertsAt_99 rfl (Nat.le_of_ble_eq_true rfl) (Nat.le_of_ble_eq_true rfl) rfl
      · refine zk_iload (pc := 32) B dX12_insertsAt_32 6 rfl ?_
        refine zk_iload_n (pc := 34) B dX12_insertsAt_34 3 rfl rfl ?_
        refine zk_icmp_ne (tgt := 53) (pc := 35) B dX12_insertsAt_35 (by decide) (fun _ => ?_) (fun _ => ?_)
        · refine zk_iload (pc := 53) B dX12_insertsAt_53 6 rfl ?_
          refine zk_iload (pc := 55) B dX12_insertsAt_55 4 rfl ?_
          refine zk_icmp_ne (tgt := 73) (pc := 57) B dX12_insertsAt_57 (by decide) (fun _ => ?_) (fun _ => ?_)
          · refine zk_aload_n (pc := 73) B dX12_insertsAt_73 0 rfl rfl ?_
            refine zk_getr (pc := 74) B kx_12 (gModel_s ha) 32 (by decide) kf_12_50 rfl (gModel_f32 ha) dX12_insertsAt_74 ?_
            refine zk_iload (pc := 77) B dX12_insertsAt_77 6 rfl ?_
            refine zk_aload_n (pc := 79) B dX12_insertsAt_79 0 rfl rfl ?_
            refine zk_iload_n (pc := 80) B dX12_insertsAt_80 1 rfl rfl ?_
            refine zk_bipush (v := 12) (pc := 81) B dX12_insertsAt_81 (by decide) ?_
            refine zk_iload (pc := 83) B dX12_insertsAt_83 5 rfl ?_
            refine zk_iadd (pc := 85) B dX12_insertsAt_85 ?_
            refine zk_cpi (pc := 86) (k' := 0) (n' := 0) B rfl rfl (Nat.le_of_ble_eq_true rfl) (Nat.le_of_ble_eq_true rfl) (fun b hb => zr_V B hR kV_yX12_in2 km_12_268 kx_12 (gModel_s ha) [.int v1, .int (12 + v6)] rfl rfl (Nat.le_of_ble_eq_true rfl) dX12_insertsAt_86 (m_Model_in2 hX ha v1 (12 + v6) M b hb) ⟨Nat.le_of_ble_eq_true rfl, Nat.le_of_ble_eq_true rfl⟩ ⟨Nat.le_of_ble_eq_true rfl, Nat.le_of_ble_eq_true rfl⟩) (fun x3 _ => ?_)
            refine zk_iast (pc := 89) B (gModel_t32 ha) dX12_insertsAt_89 ?_
            refine zk_lm (fun M4 => ?_)
            refine zk_iinc (y := 1) (lf := fun x5 => [(6, .int x5), (0, .ref a), (1, .int v1), (2, .int v2), (3, .int v3), (4, .int v4), (7, .int v7)]) (pc := 90) B dX12_insertsAt_90 5 rfl (by decide) (by decide) (fun _ => rfl) (fun x5 => ?_)
            refine zk_iinc (y := 1) (lf := fun x6 => [(7, .int x6), (6, .int x5), (0, .ref a), (1, .int v1), (2, .int v2), (3, .int v3), (4, .int v4)]) (pc := 93) B dX12_insertsAt_93 6 rfl (by decide) (by decide) (fun _ => rfl) (fun x6 => ?_)
            refine zk_goto (tgt := 23) (pc := 96) B dX12_insertsAt_96 (by decide) ?_
            refine zk_sub [2, 3, 4, 5, 6, 1, 0] rfl ?_
            exact ih23 v1 v2 v3 v4 x5 x6 M4
          · refine zk_aload_n (pc := 60) B dX12_insertsAt_60 0 rfl rfl ?_
            refine zk_getr (pc := 61) B kx_12 (gModel_s ha) 32 (by decide) kf_12_50 rfl (gModel_f32 ha) dX12_insertsAt_61 ?_
            refine zk_iload (pc := 64) B dX12_insertsAt_64 6 rfl ?_
            refine zk_iconst (v := 2) (pc := 66) B dX12_insertsAt_66 (by decide) ?_
            refine zk_iload_n (pc := 67) B dX12_insertsAt_67 2 rfl rfl ?_
            refine zk_imul (pc := 68) B dX12_insertsAt_68 ?_
            refine zk_iast (pc := 69) B (gModel_t32 ha) dX12_insertsAt_69 ?_
            refine zk_lm (fun M7 => ?_)
            refine zk_goto (tgt := 93) (pc := 70) B dX12_insertsAt_70 (by decide) ?_
            refine zk_iinc (y := 1) (lf := fun x8 => [(7, .int x8), (0, .ref a), (1, .int v1), (2, .int v2), (3, .int v3), (4, .int v4), (6, .int v6)]) (pc := 93) B dX12_insertsAt_93 6 rfl (by decide) (by decide) (fun _ => rfl) (fun x8 => ?_)
            refine zk_goto (tgt := 23) (pc := 96) B dX12_insertsAt_96 (by decide) ?_
            refine zk_sub [1, 2, 3, 4, 5, 6, 0] rfl ?_
            exact ih23 v1 v2 v3 v4 v6 x8 M7
        · refine zk_aload_n (pc := 38) B dX12_insertsAt_38 0 rfl rfl ?_
          refine zk_getr (pc := 39) B kx_12 (gModel_s ha) 32 (by decide) kf_12_50 rfl (gModel_f32 ha) dX12_insertsAt_39 ?_
          refine zk_iload (pc := 42) B dX12_insertsAt_42 6 rfl ?_
          refine zk_iconst (v := 2) (pc := 44) B dX12_insertsAt_44 (by decide) ?_
          refine zk_iload_n (pc := 45) B dX12_insertsAt_45 2 rfl rfl ?_
          refine zk_imul (pc := 46) B dX12_insertsAt_46 ?_
          refine zk_iconst (v := 1) (pc := 47) B dX12_insertsAt_47 (by decide) ?_
          refine zk_iadd (pc := 48) B dX12_insertsAt_48 ?_
          refine zk_iast (pc := 49) B (gModel_t32 ha) dX12_insertsAt_49 ?_
          refine zk_lm (fun M9 => ?_)
          refine zk_goto (tgt := 93) (pc := 50) B dX12_insertsAt_50 (by decide) ?_
          refine zk_iinc (y := 1) (lf := fun x10 => [(7, .int x10), (0, .ref a), (1, .int v1), (2, .int v2), (3, .int v3), (4, .int v4), (6, .int v6)]) (pc := 93) B dX12_insertsAt_93 6 rfl (by decide) (by decide) (fun _ => rfl) (fun x10 => ?_)
          refine zk_goto (tgt := 23) (pc := 96) B dX12_insertsAt_96 (by decide) ?_
          refine zk_sub [1, 2, 3, 4, 5, 6, 0] rfl ?_
          exact ih23 v1 v2 v3 v4 v6 x10 M9
  show z_K X F 8 0 0 G z_cvm b 0 0 0 [(0, .ref a), (1, .int p0), (2, .int p1), (3, .int p2), (4, .int p3)] [] M (F_Model_insertsAt a p0 p1 p2 p3 M)
  unfold F_Model_insertsAt
  refine zk_aload_n (pc := 0) B dX12_insertsAt_0 0 rfl rfl ?_
  refine zk_iload_n (pc := 1) B dX12_insertsAt_1 1 rfl rfl ?_
  refine zk_bipush (v := 11) (pc := 2) B dX12_insertsAt_2 (by decide) ?_
  refine zk_cpi (pc := 4) (k' := 0) (n' := 0) B rfl rfl (Nat.le_of_ble_eq_true rfl) (Nat.le_of_ble_eq_true rfl) (fun b hb => zr_V B hR kV_yX12_in2 km_12_268 kx_12 (gModel_s ha) [.int p0, .int 11] rfl rfl (Nat.le_of_ble_eq_true rfl) dX12_insertsAt_4 (m_Model_in2 hX ha p0 11 M b hb) ⟨Nat.le_of_ble_eq_true rfl, Nat.le_of_ble_eq_true rfl⟩ ⟨Nat.le_of_ble_eq_true rfl, Nat.le_of_ble_eq_true rfl⟩) (fun x1 _ => ?_)
  refine zk_istore (loc' := [(5, .int x1), (0, .ref a), (1, .int p0), (2, .int p1), (3, .int p2), (4, .int p3)]) (pc := 7) B dX12_insertsAt_7 (by decide) rfl ?_
  refine zk_iconst (v := 0) (pc := 9) B dX12_insertsAt_9 (by decide) ?_
  refine zk_istore (loc' := [(6, .int 0), (5, .int x1), (0, .ref a), (1, .int p0), (2, .int p1), (3, .int p2), (4, .int p3)]) (pc := 10) B dX12_insertsAt_10 (by decide) rfl ?_
  refine zk_aload_n (pc := 12) B dX12_insertsAt_12 2 rfl rfl ?_
  refine zk_iload (pc := 13) B dX12_insertsAt_13 1 rfl ?_
  refine zk_iconst (v := 2) (pc := 15) B dX12_insertsAt_15 (by decide) ?_
  refine zk_iadd (pc := 16) B dX12_insertsAt_16 ?_
  refine zk_puti (pc := 17) B kx_12 (gModel_s ha) 39 (by decide) kf_12_271 rfl rfl rfl rfl dX12_insertsAt_17 ?_
  refine zk_lm (fun M2 => ?_)
  refine zk_iconst (v := 0) (pc := 20) B dX12_insertsAt_20 (by decide) ?_
  refine zk_istore (loc' := [(7, .int 0), (6, .int 0), (5, .int x1), (0, .ref a), (1, .int p0), (2, .int p1), (3, .int p2), (4, .int p3)]) (pc := 21) B dX12_insertsAt_21 (by decide) rfl ?_
  refine zk_sub [3, 4, 5, 6, 7, 1, 0] rfl ?_
  exact L23 10000 p0 p1 p2 p3 0 0 M2
set_option maxHeartbeats 4000000 in
set_option maxRecDepth 100000 in
theorem m_Model_findsBest {X : z_X} (hX : z_ok X) {G : z_Gr} {a : Nat} (ha : g_Model G a) (p0 : Int32) (p1 : Int32) (M : z_Mem) (b : Int32 × z_Mem) (h : F_Model_findsBest a p0 p1 M = some b) : z_Ct X yX12_findsBest cX12_findsBest 8 (some .boolean) ({ frames := 4, cells := 0, slots := 0, locals := 98 } : Room) [.ref a, .int p0, .int p1] G M (fun o9 G9 M9 => G9 = G ∧ (o9, M9) = z_cim b) := by
  refine z_enter hX (by decide) (Nat.le_of_ble_eq_true rfl) h (fun F B hR => ?_)
  have L52 : ∀ (nf52 : Nat), ∀ (v1 : Int32) (v2 : Int32) (v3 : Int32) (v4 : Int32) (v5 : Int32) (M : z_Mem), z_K X F 8 0 0 G z_cim b 0 0 52 [(0, .ref a), (1, .int v1), (2, .int v2), (3, .int v3), (4, .int v4), (5, .int v5)] [] M (F_Model_findsBest_L52 a nf52 v1 v2 v3 v4 v5 M) := by
    intro nf52
    induction nf52 with
    | zero => intro v1 v2 v3 v4 v5 M; exact zk_none
    | succ nf52 ih52 =>
      have L64 : ∀ (nf64 : Nat), ∀ (v1 : Int32) (v2 : Int32) (v3 : Int32) (v4 : Int32) (v5 : Int32) (v6 : Int32) (M : z_Mem), z_K X F 8 0 0 G z_cim b 0 0 64 [(0, .ref a), (1, .int v1), (2, .int v2), (3, .int v3), (4, .int v4), (5, .int v5), (6, .int v6)] [] M (F_Model_findsBest_L64 a (F_Model_findsBest_L52 a nf52) nf64 v1 v2 v3 v4 v5 v6 M) := by
        intro nf64
        induction nf64 with
        | zero => intro v1 v2 v3 v4 v5 v6 M; exact zk_none
        | succ nf64 ih64 =>
          have J146 : ∀ (v1 : Int32) (v2 : Int32) (v3 : Int32) (v4 : Int32) (v5 : Int32) (v6 : Int32) (v7 : Int32) (M : z_Mem), z_K X F 8 0 0 G z_cim b 0 0 146 [(0, .ref a), (1, .int v1), (2, .int v2), (3, .int v3), (4, .int v4), (5, .int v5), (6, .int v6), (7, .int v7)] [] M (F_Model_findsBest_J146 a (F_Model_findsBest_L52 a nf52) (F_Model_findsBest_L64 a (F_Model_findsBest_L52 a nf52) nf64) v1 v2 v3 v4 v5 v6 v7 M) := by
            intro v1 v2 v3 v4 v5 v6 v7 M
            unfold F_Model_findsBest_J146
            refine zk_aload_n (pc := 146) B dX12_findsBest_146 0 rfl rfl ?_
            refine zk_iload (pc := 147) B dX12_findsBest_147 7 rfl ?_
            refine zk_puti (pc := 149) B kx_12 (gModel_s ha) 40 (by decide) kf_12_298 rfl rfl rfl rfl dX12_findsBest_149 ?_
            refine zk_lm (fun M16 => ?_)
            refine zk_aload_n (pc := 152) B dX12_findsBest_152 0 rfl rfl ?_
            refine zk_aload_n (pc := 153) B dX12_findsBest_153 0 rfl rfl ?_
            refine zk_getr (pc := 154) B kx_12 (gModel_s ha) 34 (by decide) kf_12_56 rfl (gModel_f34 ha) dX12_findsBest_154 ?_
            refine zk_iload (pc := 157) B dX12_findsBest_157 5 rfl ?_
            refine zk_iald (pc := 159) B (gModel_t34 ha) dX12_findsBest_159 ?_
            refine zk_puti (pc := 160) B kx_12 (gModel_s ha) 41 (by decide) kf_12_314 rfl rfl rfl rfl dX12_findsBest_160 ?_
            refine zk_lm (fun M17 => ?_)
            refine zk_aload_n (pc := 163) B dX12_findsBest_163 0 rfl rfl ?_
            refine zk_aload_n (pc := 164) B dX12_findsBest_164 0 rfl rfl ?_
            refine zk_getr (pc := 165) B kx_12 (gModel_s ha) 34 (by decide) kf_12_56 rfl (gModel_f34 ha) dX12_findsBest_165 ?_
            refine zk_iload (pc := 168) B dX12_findsBest_168 6 rfl ?_
            refine zk_iald (pc := 170) B (gModel_t34 ha) dX12_findsBest_170 ?_
            refine zk_puti (pc := 171) B kx_12 (gModel_s ha) 42 (by decide) kf_12_317 rfl rfl rfl rfl dX12_findsBest_171 ?_
            refine zk_lm (fun M18 => ?_)
            refine zk_aload_n (pc := 174) B dX12_findsBest_174 0 rfl rfl ?_
            refine zk_iload (pc := 175) B dX12_findsBest_175 5 rfl ?_
            refine zk_puti (pc := 177) B kx_12 (gModel_s ha) 43 (by decide) kf_12_320 rfl rfl rfl rfl dX12_findsBest_177 ?_
            refine zk_lm (fun M19 => ?_)
            refine zk_aload_n (pc := 180) B dX12_findsBest_180 0 rfl rfl ?_
            refine zk_iload (pc := 181) B dX12_findsBest_181 6 rfl ?_
            refine zk_puti (pc := 183) B kx_12 (gModel_s ha) 44 (by decide) kf_12_323 rfl rfl rfl rfl dX12_findsBest_183 ?_
            refine zk_lm (fun M20 => ?_)
            refine zk_iinc (y := 1) (lf := fun x21 => [(6, .int x21), (0, .ref a), (1, .int v1), (2, .int v2), (3, .int v3), (4, .int v4), (5, .int v5), (7, .int v7)]) (pc := 186) B dX12_findsBest_186 6 rfl (by decide) (by decide) (fun _ => rfl) (fun x21 => ?_)
            refine zk_goto (tgt := 64) (pc := 189) B dX12_findsBest_189 (by decide) ?_
            refine zk_sub [1, 2, 3, 4, 5, 6, 0] rfl ?_
            exact ih64 v1 v2 v3 v4 v5 x21 M20
          intro v1 v2 v3 v4 v5 v6 M
          show z_K X F 8 0 0 G z_cim b 0 0 64 [(0, .ref a), (1, .int v1), (2, .int v2), (3, .int v3), (4, .int v4), (5, .int v5), (6, .int v6)] [] M (F_Model_findsBest_B64 a (F_Model_findsBest_L52 a nf52) (F_Model_findsBest_L64 a (F_Model_findsBest_L52 a nf52) nf64) v1 v2 v3 v4 v5 v6 M)
          unfold F_Model_findsBest_B64
          refine zk_iload (pc := 64) B dX12_findsBest_64 6 rfl ?_
          refine zk_iload_n (pc := 66) B dX12_findsBest_66 3 rfl rfl ?_
          refine zk_iconst (v := 1) (pc := 67) B dX12_findsBest_67 (by decide) ?_
          refine zk_iadd (pc := 68) B dX12_findsBest_68 ?_
          refine zk_icmp_gt (tgt := 192) (pc := 69) B dX12_findsBest_69 (by decide) (fun _ => ?_) (fun _ => ?_)
          · refine zk_iinc (y := 1) (lf := fun x7 => [(5, .int x7), (0, .ref a), (1, .int v1), (2, .int v2), (3, .int v3), (4, .int v4), (6, .int v6)]) (pc := 192) B dX12_findsBest_192 5 rfl (by decide) (by decide) (fun _ => rfl) (fun x7 => ?_)
            refine zk_goto (tgt := 52) (pc := 195) B dX12_findsBest_195 (by decide) ?_
            refine zk_sub [1, 2, 3, 4, 5, 0] rfl ?_
            exact ih52 v1 v2 v3 v4 x7 M
          · refine zk_aload_n (pc := 72) B dX12_findsBest_72 0 rfl rfl ?_
            refine zk_iload_n (pc := 73) B dX12_findsBest_73 1 rfl rfl ?_
            refine zk_iload_n (pc := 74) B dX12_findsBest_74 2 rfl rfl ?_
            refine zk_iload (pc := 75) B dX12_findsBest_75 5 rfl ?_
            refine zk_iload (pc := 77) B dX12_findsBest_77 6 rfl ?_
            refine zk_cvm (pc := 79) (k' := 0) (n' := 0) B rfl rfl (Nat.le_of_ble_eq_true rfl) (Nat.le_of_ble_eq_true rfl) (fun b hb => zr_V B hR kV_yX12_insertsAt km_12_307 kx_12 (gModel_s ha) [.int v1, .int v2, .int v5, .int v6] rfl rfl (Nat.le_of_ble_eq_true rfl) dX12_findsBest_79 (m_Model_insertsAt hX ha v1 v2 v5 v6 M b hb) ⟨Nat.le_of_ble_eq_true rfl, Nat.le_of_ble_eq_true rfl⟩ ⟨Nat.le_of_ble_eq_true rfl, Nat.le_of_ble_eq_true rfl⟩) (fun M8 => ?_)
            refine zk_aload_n (pc := 82) B dX12_findsBest_82 0 rfl rfl ?_
            refine zk_iload_n (pc := 83) B dX12_findsBest_83 1 rfl rfl ?_
            refine zk_cim (pc := 84) (k' := 0) (n' := 0) B rfl rfl (Nat.le_of_ble_eq_true rfl) (Nat.le_of_ble_eq_true rfl) (fun b hb => zr_V B hR kV_yX12_plans km_12_311 kx_12 (gModel_s ha) [.int v1] rfl rfl (Nat.le_of_ble_eq_true rfl) dX12_findsBest_84 (m_Model_plans hX ha v1 M8 b hb) ⟨Nat.le_of_ble_eq_true rfl, Nat.le_of_ble_eq_true rfl⟩ ⟨Nat.le_of_ble_eq_true rfl, Nat.le_of_ble_eq_true rfl⟩) (fun x10 M9 => ?_)
            refine zk_if_ne (tgt := 93) (pc := 87) B dX12_findsBest_87 (by decide) (fun _ => ?_) (fun _ => ?_)
            · refine zk_aload_n (pc := 93) B dX12_findsBest_93 0 rfl rfl ?_
              refine zk_iload_n (pc := 94) B dX12_findsBest_94 1 rfl rfl ?_
              refine zk_cpi (pc := 95) (k' := 0) (n' := 0) B rfl rfl (Nat.le_of_ble_eq_true rfl) (Nat.le_of_ble_eq_true rfl) (fun b hb => zr_V B hR kV_yX12_sumOfWays km_12_304 kx_12 (gModel_s ha) [.int v1] rfl rfl (Nat.le_of_ble_eq_true rfl) dX12_findsBest_95 (m_Model_sumOfWays hX ha v1 M9 b hb) ⟨Nat.le_of_ble_eq_true rfl, Nat.le_of_ble_eq_true rfl⟩ ⟨Nat.le_of_ble_eq_true rfl, Nat.le_of_ble_eq_true rfl⟩) (fun x11 _ => ?_)
              refine zk_iload (pc := 98) B dX12_findsBest_98 4 rfl ?_
              refine zk_isub (pc := 100) B dX12_findsBest_100 ?_
              refine zk_li (fun x12 => ?_)
              refine zk_istore (loc' := [(7, .int x12), (0, .ref a), (1, .int v1), (2, .int v2), (3, .int v3), (4, .int v4), (5, .int v5), (6, .int v6)]) (pc := 101) B dX12_findsBest_101 (by decide) rfl ?_
              refine zk_aload_n (pc := 103) B dX12_findsBest_103 1 rfl rfl ?_
              refine zk_geti (pc := 104) B kx_12 (gModel_s ha) 40 (by decide) kf_12_298 rfl dX12_findsBest_104 ?_
              refine zk_iconst (v := (-1)) (pc := 107) B dX12_findsBest_107 (by decide) ?_
              refine zk_icmp_eq (tgt := 146) (pc := 108) B dX12_findsBest_108 (by decide) (fun _ => ?_) (fun _ => ?_)
              · refine zk_sub [1, 2, 3, 4, 5, 6, 7, 0] rfl ?_
                exact J146 v1 v2 v3 v4 v5 v6 x12 M9
              · refine zk_iload (pc := 111) B dX12_findsBest_111 0 rfl ?_
                refine zk_aload_n (pc := 113) B dX12_findsBest_113 1 rfl rfl ?_
                refine zk_geti (pc := 114) B kx_12 (gModel_s ha) 40 (by decide) kf_12_298 rfl dX12_findsBest_114 ?_
                refine zk_icmp_gt (tgt := 186) (pc := 117) B dX12_findsBest_117 (by decide) (fun _ => ?_) (fun _ => ?_)
                · refine zk_iinc (y := 1) (lf := fun x13 => [(6, .int x13), (7, .int x12), (0, .ref a), (1, .int v1), (2, .int v2), (3, .int v3), (4, .int v4), (5, .int v5)]) (pc := 186) B dX12_findsBest_186 7 rfl (by decide) (by decide) (fun _ => rfl) (fun x13 => ?_)
                  refine zk_goto (tgt := 64) (pc := 189) B dX12_findsBest_189 (by decide) ?_
                  refine zk_sub [2, 3, 4, 5, 6, 7, 0] rfl ?_
                  exact ih64 v1 v2 v3 v4 v5 x13 M9
                · refine zk_iload (pc := 120) B dX12_findsBest_120 0 rfl ?_
                  refine zk_aload_n (pc := 122) B dX12_findsBest_122 1 rfl rfl ?_
                  refine zk_geti (pc := 123) B kx_12 (gModel_s ha) 40 (by decide) kf_12_298 rfl dX12_findsBest_123 ?_
                  refine zk_icmp_ne (tgt := 146) (pc := 126) B dX12_findsBest_126 (by decide) (fun _ => ?_) (fun _ => ?_)
                  · refine zk_sub [1, 2, 3, 4, 5, 6, 7, 0] rfl ?_
                    exact J146 v1 v2 v3 v4 v5 v6 x12 M9
                  · refine zk_aload_n (pc := 129) B dX12_findsBest_129 1 rfl rfl ?_
                    refine zk_getr (pc := 130) B kx_12 (gModel_s ha) 34 (by decide) kf_12_56 rfl (gModel_f34 ha) dX12_findsBest_130 ?_
                    refine zk_iload (pc := 133) B dX12_findsBest_133 6 rfl ?_
                    refine zk_iald (pc := 135) B (gModel_t34 ha) dX12_findsBest_135 ?_
                    refine zk_aload_n (pc := 136) B dX12_findsBest_136 1 rfl rfl ?_
                    refine zk_geti (pc := 137) B kx_12 (gModel_s ha) 41 (by decide) kf_12_314 rfl dX12_findsBest_137 ?_
                    refine zk_icmp_lt (tgt := 146) (pc := 140) B dX12_findsBest_140 (by decide) (fun _ => ?_) (fun _ => ?_)
                    · refine zk_sub [1, 2, 3, 4, 5, 6, 7, 0] rfl ?_
                      exact J146 v1 v2 v3 v4 v5 v6 x12 M9
                    · refine zk_goto (tgt := 186) (pc := 143) B dX12_findsBest_143 (by decide) ?_
                      refine zk_iinc (y := 1) (lf := fun x14 => [(6, .int x14), (7, .int x12), (0, .ref a), (1, .int v1), (2, .int v2), (3, .int v3), (4, .int v4), (5, .int v5)]) (pc := 186) B dX12_findsBest_186 7 rfl (by decide) (by decide) (fun _ => rfl) (fun x14 => ?_)
                      refine zk_goto (tgt := 64) (pc := 189) B dX12_findsBest_189 (by decide) ?_
                      refine zk_sub [2, 3, 4, 5, 6, 7, 0] rfl ?_
                      exact ih64 v1 v2 v3 v4 v5 x14 M9
            · refine zk_goto (tgt := 186) (pc := 90) B dX12_findsBest_90 (by decide) ?_
              refine zk_iinc (y := 1) (lf := fun x15 => [(6, .int x15), (0, .ref a), (1, .int v1), (2, .int v2), (3, .int v3), (4, .int v4), (5, .int v5)]) (pc := 186) B dX12_findsBest_186 6 rfl (by decide) (by decide) (fun _ => rfl) (fun x15 => ?_)
              refine zk_goto (tgt := 64) (pc := 189) B dX12_findsBest_189 (by decide) ?_
              refine zk_sub [1, 2, 3, 4, 5, 6, 0] rfl ?_
              exact ih64 v1 v2 v3 v4 v5 x15 M9
      intro v1 v2 v3 v4 v5 M
      show z_K X F 8 0 0 G z_cim b 0 0 52 [(0, .ref a), (1, .int v1), (2, .int v2), (3, .int v3), (4, .int v4), (5, .int v5)] [] M (F_Model_findsBest_B52 a (F_Model_findsBest_L52 a nf52) v1 v2 v3 v4 v5 M)
      unfold F_Model_findsBest_B52
      refine zk_iload (pc := 52) B dX12_findsBest_52 5 rfl ?_
      refine zk_iload_n (pc := 54) B dX12_findsBest_54 3 rfl rfl ?_
      refine zk_icmp_gt (tgt := 198) (pc := 55) B dX12_findsBest_55 (by decide) (fun _ => ?_) (fun _ => ?_)
      · refine zk_aload_n (pc := 198) B dX12_findsBest_198 0 rfl rfl ?_
        refine zk_geti (pc := 199) B kx_12 (gModel_s ha) 40 (by decide) kf_12_298 rfl dX12_findsBest_199 ?_
        refine zk_iconst (v := (-1)) (pc := 202) B dX12_findsBest_202 (by decide) ?_
        refine zk_icmp_eq (tgt := 210) (pc := 203) B dX12_findsBest_203 (by decide) (fun _ => ?_) (fun _ => ?_)
        · refine zk_iconst (v := 0) (pc := 210) B dX12_findsBest_210 (by decide) ?_
          exact zk_iret (pc := 211) B dX12_findsBest_211 rfl rfl (Nat.le_of_ble_eq_true rfl) (Nat.le_of_ble_eq_true rfl) rfl
        · refine zk_iconst (v := 1) (pc := 206) B dX12_findsBest_206 (by decide) ?_
          refine zk_goto (tgt := 211) (pc := 207) B dX12_findsBest_207 (by decide) ?_
          exact zk_iret (pc := 211) B dX12_findsBest_211 rfl rfl (Nat.le_of_ble_eq_true rfl) (Nat.le_of_ble_eq_true rfl) rfl
      · refine zk_iload (pc := 58) B dX12_findsBest_58 5 rfl ?_
        refine zk_iconst (v := 1) (pc := 60) B dX12_findsBest_60 (by decide) ?_
        refine zk_iadd (pc := 61) B dX12_findsBest_61 ?_
        refine zk_li (fun x6 => ?_)
        refine zk_istore (loc' := [(6, .int x6), (0, .ref a), (1, .int v1), (2, .int v2), (3, .int v3), (4, .int v4), (5, .int v5)]) (pc := 62) B dX12_findsBest_62 (by decide) rfl ?_
        refine zk_sub [1, 2, 3, 4, 5, 6, 0] rfl ?_
        exact L64 10000 v1 v2 v3 v4 v5 x6 M
  have J50 : ∀ (v1 : Int32) (v2 : Int32) (v3 : Int32) (v4 : Int32) (s0 : Int32) (M : z_Mem), z_K X F 8 0 0 G z_cim b 0 0 50 [(0, .ref a), (1, .int v1), (2, .int v2), (3, .int v3), (4, .int v4)] [.int s0] M (F_Model_findsBest_J50 a v1 v2 v3 v4 s0 M) := by
    intro v1 v2 v3 v4 s0 M
    unfold F_Model_findsBest_J50
    refine zk_istore (loc' := [(5, .int s0), (0, .ref a), (1, .int v1), (2, .int v2), (3, .int v3), (4, .int v4)]) (pc := 50) B dX12_findsBest_50 (by decide) rfl ?_
    refine zk_sub [1, 2, 3, 4, 5, 0] rfl ?_
    exact L52 10000 v1 v2 v3 v4 s0 M
  show z_K X F 8 0 0 G z_cim b 0 0 0 [(0, .ref a), (1, .int p0), (2, .int p1)] [] M (F_Model_findsBest a p0 p1 M)
  unfold F_Model_findsBest
  refine zk_aload_n (pc := 0) B dX12_findsBest_0 0 rfl rfl ?_
  refine zk_iconst (v := (-1)) (pc := 1) B dX12_findsBest_1 (by decide) ?_
  refine zk_puti (pc := 2) B kx_12 (gModel_s ha) 40 (by decide) kf_12_298 rfl rfl rfl rfl dX12_findsBest_2 ?_
  refine zk_lm (fun M1 => ?_)
  refine zk_aload_n (pc := 5) B dX12_findsBest_5 0 rfl rfl ?_
  refine zk_iload_n (pc := 6) B dX12_findsBest_6 1 rfl rfl ?_
  refine zk_bipush (v := 11) (pc := 7) B dX12_findsBest_7 (by decide) ?_
  refine zk_cpi (pc := 9) (k' := 0) (n' := 0) B rfl rfl (Nat.le_of_ble_eq_true rfl) (Nat.le_of_ble_eq_true rfl) (fun b hb => zr_V B hR kV_yX12_in2 km_12_268 kx_12 (gModel_s ha) [.int p0, .int 11] rfl rfl (Nat.le_of_ble_eq_true rfl) dX12_findsBest_9 (m_Model_in2 hX ha p0 11 M1 b hb) ⟨Nat.le_of_ble_eq_true rfl, Nat.le_of_ble_eq_true rfl⟩ ⟨Nat.le_of_ble_eq_true rfl, Nat.le_of_ble_eq_true rfl⟩) (fun x2 _ => ?_)
  refine zk_istore_n (loc' := [(3, .int x2), (0, .ref a), (1, .int p0), (2, .int p1)]) (pc := 12) B dX12_findsBest_12 rfl (by decide) rfl ?_
  refine zk_iload_n (pc := 13) B dX12_findsBest_13 0 rfl rfl ?_
  refine zk_iconst (v := 2) (pc := 14) B dX12_findsBest_14 (by decide) ?_
  refine zk_iadd (pc := 15) B dX12_findsBest_15 ?_
  refine zk_bipush (v := 12) (pc := 16) B dX12_findsBest_16 (by decide) ?_
  refine zk_icmp_le (tgt := 23) (pc := 18) B dX12_findsBest_18 (by decide) (fun _ => ?_) (fun _ => ?_)
  · refine zk_aload_n (pc := 23) B dX12_findsBest_23 1 rfl rfl ?_
    refine zk_iload_n (pc := 24) B dX12_findsBest_24 2 rfl rfl ?_
    refine zk_cvm (pc := 25) (k' := 0) (n' := 0) B rfl rfl (Nat.le_of_ble_eq_true rfl) (Nat.le_of_ble_eq_true rfl) (fun b hb => zr_V B hR kV_yX12_lists km_12_301 kx_12 (gModel_s ha) [.int p0] rfl rfl (Nat.le_of_ble_eq_true rfl) dX12_findsBest_25 (m_Model_lists hX ha p0 M1 b hb) ⟨Nat.le_of_ble_eq_true rfl, Nat.le_of_ble_eq_true rfl⟩ ⟨Nat.le_of_ble_eq_true rfl, Nat.le_of_ble_eq_true rfl⟩) (fun M3 => ?_)
    refine zk_aload_n (pc := 28) B dX12_findsBest_28 1 rfl rfl ?_
    refine zk_iload_n (pc := 29) B dX12_findsBest_29 2 rfl rfl ?_
    refine zk_cpi (pc := 30) (k' := 0) (n' := 0) B rfl rfl (Nat.le_of_ble_eq_true rfl) (Nat.le_of_ble_eq_true rfl) (fun b hb => zr_V B hR kV_yX12_sumOfWays km_12_304 kx_12 (gModel_s ha) [.int p0] rfl rfl (Nat.le_of_ble_eq_true rfl) dX12_findsBest_30 (m_Model_sumOfWays hX ha p0 M3 b hb) ⟨Nat.le_of_ble_eq_true rfl, Nat.le_of_ble_eq_true rfl⟩ ⟨Nat.le_of_ble_eq_true rfl, Nat.le_of_ble_eq_true rfl⟩) (fun x4 _ => ?_)
    refine zk_istore (loc' := [(4, .int x4), (3, .int x2), (0, .ref a), (1, .int p0), (2, .int p1)]) (pc := 33) B dX12_findsBest_33 (by decide) rfl ?_
    refine zk_aload_n (pc := 35) B dX12_findsBest_35 2 rfl rfl ?_
    refine zk_iload_n (pc := 36) B dX12_findsBest_36 3 rfl rfl ?_
    refine zk_iconst (v := 3) (pc := 37) B dX12_findsBest_37 (by decide) ?_
    refine zk_cpi (pc := 38) (k' := 0) (n' := 0) B rfl rfl (Nat.le_of_ble_eq_true rfl) (Nat.le_of_ble_eq_true rfl) (fun b hb => zr_V B hR kV_yX12_in2 km_12_268 kx_12 (gModel_s ha) [.int p0, .int 3] rfl rfl (Nat.le_of_ble_eq_true rfl) dX12_findsBest_38 (m_Model_in2 hX ha p0 3 M3 b hb) ⟨Nat.le_of_ble_eq_true rfl, Nat.le_of_ble_eq_true rfl⟩ ⟨Nat.le_of_ble_eq_true rfl, Nat.le_of_ble_eq_true rfl⟩) (fun x5 _ => ?_)
    refine zk_iconst (v := (-1)) (pc := 41) B dX12_findsBest_41 (by decide) ?_
    refine zk_icmp_ne (tgt := 49) (pc := 42) B dX12_findsBest_42 (by decide) (fun _ => ?_) (fun _ => ?_)
    · refine zk_iconst (v := 1) (pc := 49) B dX12_findsBest_49 (by decide) ?_
      refine zk_sub [2, 3, 4, 1, 0] rfl ?_
      exact J50 p0 p1 x2 x4 1 M3
    · refine zk_iconst (v := 0) (pc := 45) B dX12_findsBest_45 (by decide) ?_
      refine zk_goto (tgt := 50) (pc := 46) B dX12_findsBest_46 (by decide) ?_
      refine zk_sub [2, 3, 4, 1, 0] rfl ?_
      exact J50 p0 p1 x2 x4 0 M3
  · refine zk_iconst (v := 0) (pc := 21) B dX12_findsBest_21 (by decide) ?_
    exact zk_iret (pc := 22) B dX12_findsBest_22 rfl rfl (Nat.le_of_ble_eq_true rfl) (Nat.le_of_ble_eq_true rfl) rfl
set_option maxHeartbeats 4000000 in
set_option maxRecDepth 100000 in
theorem m_Model_puts {X : z_X} (hX : z_ok X) {G : z_Gr} {a : Nat} (ha : g_Model G a) (p0 : Int32) (M : z_Mem) (b : z_Mem) (h : F_Model_puts a p0 M = some b) : z_Ct X yX12_puts cX12_puts 3 none ({ frames := 1, cells := 0, slots := 0, locals := 23 } : Room) [.ref a, .int p0] G M (fun o9 G9 M9 => G9 = G ∧ (o9, M9) = z_cvm b) := by
  refine z_enter hX (by decide) (Nat.le_of_ble_eq_true rfl) h (fun F B hR => ?_)
  have L2 : ∀ (nf2 : Nat), ∀ (v1 : Int32) (v2 : Int32) (M : z_Mem), z_K X F 3 0 0 G z_cvm b 0 0 2 [(0, .ref a), (1, .int v1), (2, .int v2)] [] M (F_Model_puts_L2 a nf2 v1 v2 M) := by
    intro nf2
    induction nf2 with
    | zero => intro v1 v2 M; exact zk_none
    | succ nf2 ih2 =>
      intro v1 v2 M
      show z_K X F 3 0 0 G z_cvm b 0 0 2 [(0, .ref a), (1, .int v1), (2, .int v2)] [] M (F_Model_puts_B2 a (F_Model_puts_L2 a nf2) v1 v2 M)
      unfold F_Model_puts_B2
      refine zk_iload_n (pc := 2) B dX12_puts_2 2 rfl rfl ?_
      refine zk_aload_n (pc := 3) B dX12_puts_3 0 rfl rfl ?_
      refine zk_geti (pc := 4) B kx_12 (gModel_s ha) 39 (by decide) kf_12_271 rfl dX12_puts_4 ?_
      refine zk_icmp_ge (tgt := 31) (pc := 7) B dX12_puts_7 (by decide) (fun _ => ?_) (fun _ => ?_)
      · refine zk_aload_n (pc := 31) B dX12_puts_31 0 rfl rfl ?_
        refine zk_iload_n (pc := 32) B dX12_puts_32 1 rfl rfl ?_
        refine zk_bipush (v := 11) (pc := 33) B dX12_puts_33 (by decide) ?_
        refine zk_aload_n (pc := 35) B dX12_puts_35 0 rfl rfl ?_
        refine zk_geti (pc := 36) B kx_12 (gModel_s ha) 39 (by decide) kf_12_271 rfl dX12_puts_36 ?_
        refine zk_cvm (pc := 39) (k' := 0) (n' := 0) B rfl rfl (Nat.le_of_ble_eq_true rfl) (Nat.le_of_ble_eq_true rfl) (fun b hb => zr_V B hR kV_yX12_lays2 km_12_326 kx_12 (gModel_s ha) [.int v1, .int 11, .int (M.1 a 39)] rfl rfl (Nat.le_of_ble_eq_true rfl) dX12_puts_39 (m_Model_lays2 hX ha v1 11 (M.1 a 39) M b hb) ⟨Nat.le_of_ble_eq_true rfl, Nat.le_of_ble_eq_true rfl⟩ ⟨Nat.le_of_ble_eq_true rfl, Nat.le_of_ble_eq_true rfl⟩) (fun M1 => ?_)
        exact zk_vret (pc := 42) B dX12_puts_42 rfl (Nat.le_of_ble_eq_true rfl) (Nat.le_of_ble_eq_true rfl) rfl
      · refine zk_aload_n (pc := 10) B dX12_puts_10 0 rfl rfl ?_
        refine zk_iload_n (pc := 11) B dX12_puts_11 1 rfl rfl ?_
        refine zk_bipush (v := 12) (pc := 12) B dX12_puts_12 (by decide) ?_
        refine zk_iload_n (pc := 14) B dX12_puts_14 2 rfl rfl ?_
        refine zk_iadd (pc := 15) B dX12_puts_15 ?_
        refine zk_aload_n (pc := 16) B dX12_puts_16 0 rfl rfl ?_
        refine zk_getr (pc := 17) B kx_12 (gModel_s ha) 32 (by decide) kf_12_50 rfl (gModel_f32 ha) dX12_puts_17 ?_
        refine zk_iload_n (pc := 20) B dX12_puts_20 2 rfl rfl ?_
        refine zk_iald (pc := 21) B (gModel_t32 ha) dX12_puts_21 ?_
        refine zk_cvm (pc := 22) (k' := 0) (n' := 0) B rfl rfl (Nat.le_of_ble_eq_true rfl) (Nat.le_of_ble_eq_true rfl) (fun b hb => zr_V B hR kV_yX12_lays2 km_12_326 kx_12 (gModel_s ha) [.int v1, .int (12 + v2), .int (M.1 (a + 13) v2.toNatClampNeg)] rfl rfl (Nat.le_of_ble_eq_true rfl) dX12_puts_22 (m_Model_lays2 hX ha v1 (12 + v2) (M.1 (a + 13) v2.toNatClampNeg) M b hb) ⟨Nat.le_of_ble_eq_true rfl, Nat.le_of_ble_eq_true rfl⟩ ⟨Nat.le_of_ble_eq_true rfl, Nat.le_of_ble_eq_true rfl⟩) (fun M2 => ?_)
        refine zk_iinc (y := 1) (lf := fun x3 => [(2, .int x3), (0, .ref a), (1, .int v1)]) (pc := 25) B dX12_puts_25 2 rfl (by decide) (by decide) (fun _ => rfl) (fun x3 => ?_)
        refine zk_goto (tgt := 2) (pc := 28) B dX12_puts_28 (by decide) ?_
        refine zk_sub [1, 2, 0] rfl ?_
        exact ih2 v1 x3 M2
  show z_K X F 3 0 0 G z_cvm b 0 0 0 [(0, .ref a), (1, .int p0)] [] M (F_Model_puts a p0 M)
  unfold F_Model_puts
  refine zk_iconst (v := 0) (pc := 0) B dX12_puts_0 (by decide) ?_
  refine zk_istore_n (loc' := [(2, .int 0), (0, .ref a), (1, .int p0)]) (pc := 1) B dX12_puts_1 rfl (by decide) rfl ?_
  refine zk_sub [1, 2, 0] rfl ?_
  exact L2 10000 p0 0 M
set_option maxHeartbeats 4000000 in
set_option maxRecDepth 100000 in
theorem m_Model_drops {X : z_X} (hX : z_ok X) {G : z_Gr} {a : Nat} (ha : g_Model G a) (p0 : Int32) (p1 : Int32) (M : z_Mem) (b : z_Mem) (h : F_Model_drops a p0 p1 M = some b) : z_Ct X yX12_drops cX12_drops 6 none ({ frames := 1, cells := 0, slots := 0, locals := 23 } : Room) [.ref a, .int p0, .int p1] G M (fun o9 G9 M9 => G9 = G ∧ (o9, M9) = z_cvm b) := by
  refine z_enter hX (by decide) (Nat.le_of_ble_eq_true rfl) h (fun F B hR => ?_)
  have L5 : ∀ (nf5 : Nat), ∀ (v1 : Int32) (v2 : Int32) (v3 : Int32) (v4 : Int32) (M : z_Mem), z_K X F 6 0 0 G z_cvm b 0 0 5 [(0, .ref a), (1, .int v1), (2, .int v2), (3, .int v3), (4, .int v4)] [] M (F_Model_drops_L5 a nf5 v1 v2 v3 v4 M) := by
    intro nf5
    induction nf5 with
    | zero => intro v1 v2 v3 v4 M; exact zk_none
    | succ nf5 ih5 =>
      intro v1 v2 v3 v4 M
      show z_K X F 6 0 0 G z_cvm b 0 0 5 [(0, .ref a), (1, .int v1), (2, .int v2), (3, .int v3), (4, .int v4)] [] M (F_Model_drops_B5 a (F_Model_drops_L5 a nf5) v1 v2 v3 v4 M)
      unfold F_Model_drops_B5
      refine zk_iload (pc := 5) B dX12_drops_5 4 rfl ?_
      refine zk_aload_n (pc := 7) B dX12_drops_7 0 rfl rfl ?_
      refine zk_iload_n (pc := 8) B dX12_drops_8 1 rfl rfl ?_
      refine zk_bipush (v := 11) (pc := 9) B dX12_drops_9 (by decide) ?_
      refine zk_cpi (pc := 11) (k' := 0) (n' := 0) B rfl rfl (Nat.le_of_ble_eq_true rfl) (Nat.le_of_ble_eq_true rfl) (fun b hb => zr_V B hR kV_yX12_in2 km_12_268 kx_12 (gModel_s ha) [.int v1, .int 11] rfl rfl (Nat.le_of_ble_eq_true rfl) dX12_drops_11 (m_Model_in2 hX ha v1 11 M b hb) ⟨Nat.le_of_ble_eq_true rfl, Nat.le_of_ble_eq_true rfl⟩ ⟨Nat.le_of_ble_eq_true rfl, Nat.le_of_ble_eq_true rfl⟩) (fun x1 _ => ?_)
      refine zk_icmp_ge (tgt := 58) (pc := 14) B dX12_drops_14 (by decide) (fun _ => ?_) (fun _ => ?_)
      · refine zk_aload_n (pc := 58) B dX12_drops_58 0 rfl rfl ?_
        refine zk_iload_n (pc := 59) B dX12_drops_59 1 rfl rfl ?_
        refine zk_bipush (v := 11) (pc := 60) B dX12_drops_60 (by decide) ?_
        refine zk_iload_n (pc := 62) B dX12_drops_62 3 rfl rfl ?_
        refine zk_cvm (pc := 63) (k' := 0) (n' := 0) B rfl rfl (Nat.le_of_ble_eq_true rfl) (Nat.le_of_ble_eq_true rfl) (fun b hb => zr_V B hR kV_yX12_lays2 km_12_326 kx_12 (gModel_s ha) [.int v1, .int 11, .int v3] rfl rfl (Nat.le_of_ble_eq_true rfl) dX12_drops_63 (m_Model_lays2 hX ha v1 11 v3 M b hb) ⟨Nat.le_of_ble_eq_true rfl, Nat.le_of_ble_eq_true rfl⟩ ⟨Nat.le_of_ble_eq_true rfl, Nat.le_of_ble_eq_true rfl⟩) (fun M2 => ?_)
        exact zk_vret (pc := 66) B dX12_drops_66 rfl (Nat.le_of_ble_eq_true rfl) (Nat.le_of_ble_eq_true rfl) rfl
      · refine zk_aload_n (pc := 17) B dX12_drops_17 0 rfl rfl ?_
        refine zk_iload_n (pc := 18) B dX12_drops_18 1 rfl rfl ?_
        refine zk_bipush (v := 12) (pc := 19) B dX12_drops_19 (by decide) ?_
        refine zk_iload (pc := 21) B dX12_drops_21 4 rfl ?_
        refine zk_iadd (pc := 23) B dX12_drops_23 ?_
        refine zk_cpi (pc := 24) (k' := 0) (n' := 0) B rfl rfl (Nat.le_of_ble_eq_true rfl) (Nat.le_of_ble_eq_true rfl) (fun b hb => zr_V B hR kV_yX12_in2 km_12_268 kx_12 (gModel_s ha) [.int v1, .int (12 + v4)] rfl rfl (Nat.le_of_ble_eq_true rfl) dX12_drops_24 (m_Model_in2 hX ha v1 (12 + v4) M b hb) ⟨Nat.le_of_ble_eq_true rfl, Nat.le_of_ble_eq_true rfl⟩ ⟨Nat.le_of_ble_eq_true rfl, Nat.le_of_ble_eq_true rfl⟩) (fun x3 _ => ?_)
        refine zk_istore (loc' := [(5, .int x3), (0, .ref a), (1, .int v1), (2, .int v2), (3, .int v3), (4, .int v4)]) (pc := 27) B dX12_drops_27 (by decide) rfl ?_
        refine zk_iload (pc := 29) B dX12_drops_29 0 rfl ?_
        refine zk_iload_n (pc := 31) B dX12_drops_31 3 rfl rfl ?_
        refine zk_icmp_ne (tgt := 38) (pc := 32) B dX12_drops_32 (by decide) (fun _ => ?_) (fun _ => ?_)
        · refine zk_aload_n (pc := 38) B dX12_drops_38 1 rfl rfl ?_
          refine zk_iload_n (pc := 39) B dX12_drops_39 2 rfl rfl ?_
          refine zk_bipush (v := 12) (pc := 40) B dX12_drops_40 (by decide) ?_
          refine zk_iload_n (pc := 42) B dX12_drops_42 4 rfl rfl ?_
          refine zk_iadd (pc := 43) B dX12_drops_43 ?_
          refine zk_iload (pc := 44) B dX12_drops_44 0 rfl ?_
          refine zk_cvm (pc := 46) (k' := 0) (n' := 0) B rfl rfl (Nat.le_of_ble_eq_true rfl) (Nat.le_of_ble_eq_true rfl) (fun b hb => zr_V B hR kV_yX12_lays2 km_12_326 kx_12 (gModel_s ha) [.int v1, .int (12 + v3), .int x3] rfl rfl (Nat.le_of_ble_eq_true rfl) dX12_drops_46 (m_Model_lays2 hX ha v1 (12 + v3) x3 M b hb) ⟨Nat.le_of_ble_eq_true rfl, Nat.le_of_ble_eq_true rfl⟩ ⟨Nat.le_of_ble_eq_true rfl, Nat.le_of_ble_eq_true rfl⟩) (fun M4 => ?_)
          refine zk_iinc (y := 1) (lf := fun x5 => [(3, .int x5), (5, .int x3), (0, .ref a), (1, .int v1), (2, .int v2), (4, .int v4)]) (pc := 49) B dX12_drops_49 4 rfl (by decide) (by decide) (fun _ => rfl) (fun x5 => ?_)
          refine zk_iinc (y := 1) (lf := fun x6 => [(4, .int x6), (3, .int x5), (5, .int x3), (0, .ref a), (1, .int v1), (2, .int v2)]) (pc := 52) B dX12_drops_52 5 rfl (by decide) (by decide) (fun _ => rfl) (fun x6 => ?_)
          refine zk_goto (tgt := 5) (pc := 55) B dX12_drops_55 (by decide) ?_
          refine zk_sub [3, 4, 5, 1, 0] rfl ?_
          exact ih5 v1 v2 x5 x6 M4
        · refine zk_goto (tgt := 52) (pc := 35) B dX12_drops_35 (by decide) ?_
          refine zk_iinc (y := 1) (lf := fun x7 => [(4, .int x7), (5, .int x3), (0, .ref a), (1, .int v1), (2, .int v2), (3, .int v3)]) (pc := 52) B dX12_drops_52 5 rfl (by decide) (by decide) (fun _ => rfl) (fun x7 => ?_)
          refine zk_goto (tgt := 5) (pc := 55) B dX12_drops_55 (by decide) ?_
          refine zk_sub [2, 3, 4, 5, 0] rfl ?_
          exact ih5 v1 v2 v3 x7 M
  show z_K X F 6 0 0 G z_cvm b 0 0 0 [(0, .ref a), (1, .int p0), (2, .int p1)] [] M (F_Model_drops a p0 p1 M)
  unfold F_Model_drops
  refine zk_iconst (v := 0) (pc := 0) B dX12_drops_0 (by decide) ?_
  refine zk_istore_n (loc' := [(3, .int 0), (0, .ref a), (1, .int p0), (2, .int p1)]) (pc := 1) B dX12_drops_1 rfl (by decide) rfl ?_
  refine zk_iconst (v := 0) (pc := 2) B dX12_drops_2 (by decide) ?_
  refine zk_istore (loc' := [(4, .int 0), (3, .int 0), (0, .ref a), (1, .int p0), (2, .int p1)]) (pc := 3) B dX12_drops_3 (by decide) rfl ?_
  refine zk_sub [2, 3, 4, 1, 0] rfl ?_
  exact L5 10000 p0 p1 0 0 M
set_option maxHeartbeats 4000000 in
set_option maxRecDepth 100000 in
theorem m_Model_discountFor {X : z_X} (hX : z_ok X) {G : z_Gr} {a : Nat} (ha : g_Model G a) (p0 : Int32) (M : z_Mem) (b : Int32) (h : F_Model_discountFor a p0 M = some b) : z_Ct X yX12_discountFor cX12_discountFor 2 (some .int) ({ frames := 1, cells := 0, slots := 0, locals := 21 } : Room) [.ref a, .int p0] G M (fun o9 G9 M9 => G9 = G ∧ (o9, M9) = (z_ci M) b) := by
  refine z_enter hX (by decide) (Nat.le_of_ble_eq_true rfl) h (fun F B hR => ?_)
  show z_K X F 2 0 0 G (z_ci M) b 0 0 0 [(0, .ref a), (1, .int p0)] [] M (F_Model_discountFor a p0 M)
  unfold F_Model_discountFor
  refine zk_iload_n (pc := 0) B dX12_discountFor_0 1 rfl rfl ?_
  refine zk_iconst (v := 2) (pc := 1) B dX12_discountFor_1 (by decide) ?_
  refine zk_icmp_ge (tgt := 9) (pc := 2) B dX12_discountFor_2 (by decide) (fun _ => ?_) (fun _ => ?_)
  · refine zk_aload_n (pc := 9) B dX12_discountFor_9 0 rfl rfl ?_
    refine zk_bipush (v := 7) (pc := 10) B dX12_discountFor_10 (by decide) ?_
    refine zk_iload_n (pc := 12) B dX12_discountFor_12 1 rfl rfl ?_
    refine zk_iconst (v := 4) (pc := 13) B dX12_discountFor_13 (by decide) ?_
    refine zk_cpi (pc := 14) (k' := 0) (n' := 0) B rfl rfl (Nat.le_of_ble_eq_true rfl) (Nat.le_of_ble_eq_true rfl) (fun b hb => zr_S B hR kS_yX12_lesser km_12_330 [.int p0, .int 4] rfl rfl (Nat.le_of_ble_eq_true rfl) dX12_discountFor_14 (m_Model_lesser hX p0 4 M b hb) ⟨Nat.le_of_ble_eq_true rfl, Nat.le_of_ble_eq_true rfl⟩ ⟨Nat.le_of_ble_eq_true rfl, Nat.le_of_ble_eq_true rfl⟩) (fun x1 _ => ?_)
    refine zk_iadd (pc := 17) B dX12_discountFor_17 ?_
    refine zk_iconst (v := 2) (pc := 18) B dX12_discountFor_18 (by decide) ?_
    refine zk_isub (pc := 19) B dX12_discountFor_19 ?_
    refine zk_cpi (pc := 20) (k' := 0) (n' := 0) B rfl rfl (Nat.le_of_ble_eq_true rfl) (Nat.le_of_ble_eq_true rfl) (fun b hb => zr_V B hR kV_yX12_ruled km_12_292 kx_12 (gModel_s ha) [.int ((7 + x1) - 2)] rfl rfl (Nat.le_of_ble_eq_true rfl) dX12_discountFor_20 (m_Model_ruled hX ha ((7 + x1) - 2) M b hb) ⟨Nat.le_of_ble_eq_true rfl, Nat.le_of_ble_eq_true rfl⟩ ⟨Nat.le_of_ble_eq_true rfl, Nat.le_of_ble_eq_true rfl⟩) (fun x2 _ => ?_)
    exact zk_iret (pc := 23) B dX12_discountFor_23 rfl rfl (Nat.le_of_ble_eq_true rfl) (Nat.le_of_ble_eq_true rfl) rfl
  · refine zk_iconst (v := 0) (pc := 5) B dX12_discountFor_5 (by decide) ?_
    refine zk_goto (tgt := 23) (pc := 6) B dX12_discountFor_6 (by decide) ?_
    exact zk_iret (pc := 23) B dX12_discountFor_23 rfl rfl (Nat.le_of_ble_eq_true rfl) (Nat.le_of_ble_eq_true rfl) rfl
set_option maxHeartbeats 4000000 in
set_option maxRecDepth 100000 in
theorem m_Model_amountFor {X : z_X} (hX : z_ok X) {G : z_Gr} {a : Nat} (ha : g_Model G a) (p0 : Int32) (p1 : Int32) (M : z_Mem) (b : Int32) (h : F_Model_amountFor a p0 p1 M = some b) : z_Ct X yX12_amountFor cX12_amountFor 4 (some .int) ({ frames := 2, cells := 0, slots := 0, locals := 42 } : Room) [.ref a, .int p0, .int p1] G M (fun o9 G9 M9 => G9 = G ∧ (o9, M9) = (z_ci M) b) := by
  refine z_enter hX (by decide) (Nat.le_of_ble_eq_true rfl) h (fun F B hR => ?_)
  show z_K X F 4 0 0 G (z_ci M) b 0 0 0 [(0, .ref a), (1, .int p0), (2, .int p1)] [] M (F_Model_amountFor a p0 p1 M)
  unfold F_Model_amountFor
  refine zk_iload_n (pc := 0) B dX12_amountFor_0 1 rfl rfl ?_
  refine zk_aload_n (pc := 1) B dX12_amountFor_1 0 rfl rfl ?_
  refine zk_getr (pc := 2) B kx_12 (gModel_s ha) 1 (by decide) kf_12_7 rfl (gModel_f1 ha) dX12_amountFor_2 ?_
  refine zk_iconst (v := 2) (pc := 5) B dX12_amountFor_5 (by decide) ?_
  refine zk_iald (pc := 6) B (gModel_t1 ha) dX12_amountFor_6 ?_
  refine zk_imul (pc := 7) B dX12_amountFor_7 ?_
  refine zk_li (fun x1 => ?_)
  refine zk_istore_n (loc' := [(3, .int x1), (0, .ref a), (1, .int p0), (2, .int p1)]) (pc := 8) B dX12_amountFor_8 rfl (by decide) rfl ?_
  refine zk_iload_n (pc := 9) B dX12_amountFor_9 0 rfl rfl ?_
  refine zk_iload_n (pc := 10) B dX12_amountFor_10 0 rfl rfl ?_
  refine zk_aload_n (pc := 11) B dX12_amountFor_11 1 rfl rfl ?_
  refine zk_iload_n (pc := 12) B dX12_amountFor_12 3 rfl rfl ?_
  refine zk_cpi (pc := 13) (k' := 0) (n' := 0) B rfl rfl (Nat.le_of_ble_eq_true rfl) (Nat.le_of_ble_eq_true rfl) (fun b hb => zr_V B hR kV_yX12_discountFor km_12_333 kx_12 (gModel_s ha) [.int p1] rfl rfl (Nat.le_of_ble_eq_true rfl) dX12_amountFor_13 (m_Model_discountFor hX ha p1 M b hb) ⟨Nat.le_of_ble_eq_true rfl, Nat.le_of_ble_eq_true rfl⟩ ⟨Nat.le_of_ble_eq_true rfl, Nat.le_of_ble_eq_true rfl⟩) (fun x2 _ => ?_)
  refine zk_imul (pc := 16) B dX12_amountFor_16 ?_
  refine zk_bipush (v := 100) (pc := 17) B dX12_amountFor_17 (by decide) ?_
  refine zk_idiv (pc := 19) B dX12_amountFor_19 (by decide) ?_
  refine zk_isub (pc := 20) B dX12_amountFor_20 ?_
  exact zk_iret (pc := 21) B dX12_amountFor_21 rfl rfl (Nat.le_of_ble_eq_true rfl) (Nat.le_of_ble_eq_true rfl) rfl
set_option maxHeartbeats 4000000 in
set_option maxRecDepth 100000 in
theorem m_Model_partOf {X : z_X} (hX : z_ok X) {G : z_Gr} (p0 : Int32) (p1 : Int32) (p2 : Int32) (M : z_Mem) (b : Int32) (h : F_Model_partOf p0 p1 p2 M = some b) : z_Ct X yX12_partOf cX12_partOf 3 (some .int) ({ frames := 0, cells := 0, slots := 0, locals := 0 } : Room) [.int p0, .int p1, .int p2] G M (fun o9 G9 M9 => G9 = G ∧ (o9, M9) = (z_ci M) b) := by
  refine z_enter hX (by decide) (Nat.le_of_ble_eq_true rfl) h (fun F B hR => ?_)
  have J15 : ∀ (s0 : Int32) (s1 : Int32), z_K X F 3 0 0 G (z_ci M) b 0 0 15 [] [.int s0, .int s1] M (F_Model_partOf_J15 s0 s1 M) := by
    intro s0 s1
    unfold F_Model_partOf_J15
    refine zk_iadd (pc := 15) B dX12_partOf_15 ?_
    exact zk_iret (pc := 16) B dX12_partOf_16 rfl rfl (Nat.le_of_ble_eq_true rfl) (Nat.le_of_ble_eq_true rfl) rfl
  show z_K X F 3 0 0 G (z_ci M) b 0 0 0 [(0, .int p0), (1, .int p1), (2, .int p2)] [] M (F_Model_partOf p0 p1 p2 M)
  unfold F_Model_partOf
  refine zk_iload_n (pc := 0) B dX12_partOf_0 0 rfl rfl ?_
  refine zk_iload_n (pc := 1) B dX12_partOf_1 1 rfl rfl ?_
  refine zk_chk (fun h2 => zk_idiv (pc := 2) B dX12_partOf_2 h2 ?_)
  refine zk_iload_n (pc := 3) B dX12_partOf_3 2 rfl rfl ?_
  refine zk_iload_n (pc := 4) B dX12_partOf_4 0 rfl rfl ?_
  refine zk_iload_n (pc := 5) B dX12_partOf_5 1 rfl rfl ?_
  refine zk_chk (fun h1 => zk_irem (pc := 6) B dX12_partOf_6 h1 ?_)
  refine zk_icmp_ge (tgt := 14) (pc := 7) B dX12_partOf_7 (by decide) (fun _ => ?_) (fun _ => ?_)
  · refine zk_iconst (v := 0) (pc := 14) B dX12_partOf_14 (by decide) ?_
    refine zk_sub [] rfl ?_
    exact J15 0 (p0 / p1)
  · refine zk_iconst (v := 1) (pc := 10) B dX12_partOf_10 (by decide) ?_
    refine zk_goto (tgt := 15) (pc := 11) B dX12_partOf_11 (by decide) ?_
    refine zk_sub [] rfl ?_
    exact J15 1 (p0 / p1)
set_option maxHeartbeats 4000000 in
set_option maxRecDepth 100000 in
theorem m_Model_pays {X : z_X} (hX : z_ok X) {G : z_Gr} {a : Nat} (ha : g_Model G a) (p0 : Int32) (p1 : Int32) (M : z_Mem) (b : z_Mem) (h : F_Model_pays a p0 p1 M = some b) : z_Ct X yX12_pays cX12_pays 7 none ({ frames := 3, cells := 0, slots := 0, locals := 65 } : Room) [.ref a, .int p0, .int p1] G M (fun o9 G9 M9 => G9 = G ∧ (o9, M9) = z_cvm b) := by
  refine z_enter hX (by decide) (Nat.le_of_ble_eq_true rfl) h (fun F B hR => ?_)
  have L70 : ∀ (nf70 : Nat), ∀ (v1 : Int32) (v3 : Int32) (v4 : Int32) (v5 : Int32) (M : z_Mem), z_K X F 7 0 0 G z_cvm b 0 0 70 [(0, .ref a), (1, .int v1), (3, .int v3), (4, .int v4), (5, .int v5)] [] M (F_Model_pays_L70 a nf70 v1 v3 v4 v5 M) := by
    intro nf70
    induction nf70 with
    | zero => intro v1 v3 v4 v5 M; exact zk_none
    | succ nf70 ih70 =>
      intro v1 v3 v4 v5 M
      show z_K X F 7 0 0 G z_cvm b 0 0 70 [(0, .ref a), (1, .int v1), (3, .int v3), (4, .int v4), (5, .int v5)] [] M (F_Model_pays_B70 a (F_Model_pays_L70 a nf70) v1 v3 v4 v5 M)
      unfold F_Model_pays_B70
      refine zk_iload (pc := 70) B dX12_pays_70 4 rfl ?_
      refine zk_iload_n (pc := 72) B dX12_pays_72 2 rfl rfl ?_
      refine zk_icmp_ge (tgt := 119) (pc := 73) B dX12_pays_73 (by decide) (fun _ => ?_) (fun _ => ?_)
      · exact zk_vret (pc := 119) B dX12_pays_119 rfl (Nat.le_of_ble_eq_true rfl) (Nat.le_of_ble_eq_true rfl) rfl
      · refine zk_aload_n (pc := 76) B dX12_pays_76 0 rfl rfl ?_
        refine zk_iload_n (pc := 77) B dX12_pays_77 1 rfl rfl ?_
        refine zk_bipush (v := 25) (pc := 78) B dX12_pays_78 (by decide) ?_
        refine zk_iload (pc := 80) B dX12_pays_80 4 rfl ?_
        refine zk_iadd (pc := 82) B dX12_pays_82 ?_
        refine zk_cpi (pc := 83) (k' := 0) (n' := 0) B rfl rfl (Nat.le_of_ble_eq_true rfl) (Nat.le_of_ble_eq_true rfl) (fun b hb => zr_V B hR kV_yX12_in2 km_12_268 kx_12 (gModel_s ha) [.int v1, .int (25 + v5)] rfl rfl (Nat.le_of_ble_eq_true rfl) dX12_pays_83 (m_Model_in2 hX ha v1 (25 + v5) M b hb) ⟨Nat.le_of_ble_eq_true rfl, Nat.le_of_ble_eq_true rfl⟩ ⟨Nat.le_of_ble_eq_true rfl, Nat.le_of_ble_eq_true rfl⟩) (fun x8 _ => ?_)
        refine zk_istore (loc' := [(6, .int x8), (0, .ref a), (1, .int v1), (3, .int v3), (4, .int v4), (5, .int v5)]) (pc := 86) B dX12_pays_86 (by decide) rfl ?_
        refine zk_aload_n (pc := 88) B dX12_pays_88 1 rfl rfl ?_
        refine zk_iload (pc := 89) B dX12_pays_89 0 rfl ?_
        refine zk_bipush (v := 10) (pc := 91) B dX12_pays_91 (by decide) ?_
        refine zk_aload_n (pc := 93) B dX12_pays_93 1 rfl rfl ?_
        refine zk_iload (pc := 94) B dX12_pays_94 0 rfl ?_
        refine zk_bipush (v := 10) (pc := 96) B dX12_pays_96 (by decide) ?_
        refine zk_cpi (pc := 98) (k' := 0) (n' := 0) B rfl rfl (Nat.le_of_ble_eq_true rfl) (Nat.le_of_ble_eq_true rfl) (fun b hb => zr_V B hR kV_yX12_of km_12_274 kx_12 (gModel_s ha) [.int x8, .int 10] rfl rfl (Nat.le_of_ble_eq_true rfl) dX12_pays_98 (m_Model_of hX ha x8 10 M b hb) ⟨Nat.le_of_ble_eq_true rfl, Nat.le_of_ble_eq_true rfl⟩ ⟨Nat.le_of_ble_eq_true rfl, Nat.le_of_ble_eq_true rfl⟩) (fun x9 _ => ?_)
        refine zk_iload (pc := 101) B dX12_pays_101 4 rfl ?_
        refine zk_iload_n (pc := 103) B dX12_pays_103 3 rfl rfl ?_
        refine zk_iload (pc := 104) B dX12_pays_104 5 rfl ?_
        refine zk_cpi (pc := 106) (k' := 0) (n' := 0) B rfl rfl (Nat.le_of_ble_eq_true rfl) (Nat.le_of_ble_eq_true rfl) (fun b hb => zr_S B hR kS_yX12_partOf km_12_342 [.int v4, .int v3, .int v5] rfl rfl (Nat.le_of_ble_eq_true rfl) dX12_pays_106 (m_Model_partOf hX v4 v3 v5 M b hb) ⟨Nat.le_of_ble_eq_true rfl, Nat.le_of_ble_eq_true rfl⟩ ⟨Nat.le_of_ble_eq_true rfl, Nat.le_of_ble_eq_true rfl⟩) (fun x10 _ => ?_)
        refine zk_iadd (pc := 109) B dX12_pays_109 ?_
        refine zk_cvm (pc := 110) (k' := 0) (n' := 0) B rfl rfl (Nat.le_of_ble_eq_true rfl) (Nat.le_of_ble_eq_true rfl) (fun b hb => zr_V B hR kV_yX12_sets km_12_346 kx_12 (gModel_s ha) [.int x8, .int 10, .int (x9 + x10)] rfl rfl (Nat.le_of_ble_eq_true rfl) dX12_pays_110 (m_Model_sets hX ha x8 10 (x9 + x10) M b hb) ⟨Nat.le_of_ble_eq_true rfl, Nat.le_of_ble_eq_true rfl⟩ ⟨Nat.le_of_ble_eq_true rfl, Nat.le_of_ble_eq_true rfl⟩) (fun M11 => ?_)
        refine zk_iinc (y := 1) (lf := fun x12 => [(5, .int x12), (6, .int x8), (0, .ref a), (1, .int v1), (3, .int v3), (4, .int v4)]) (pc := 113) B dX12_pays_113 5 rfl (by decide) (by decide) (fun _ => rfl) (fun x12 => ?_)
        refine zk_goto (tgt := 70) (pc := 116) B dX12_pays_116 (by decide) ?_
        refine zk_sub [2, 3, 4, 5, 0] rfl ?_
        exact ih70 v1 v3 v4 x12 M11
  have J42 : ∀ (v1 : Int32) (v2 : Int32) (v3 : Int32) (M : z_Mem), z_K X F 7 0 0 G z_cvm b 0 0 42 [(0, .ref a), (1, .int v1), (2, .int v2), (3, .int v3)] [] M (F_Model_pays_J42 a v1 v2 v3 M) := by
    intro v1 v2 v3 M
    unfold F_Model_pays_J42
    refine zk_aload_n (pc := 42) B dX12_pays_42 0 rfl rfl ?_
    refine zk_iload_n (pc := 43) B dX12_pays_43 2 rfl rfl ?_
    refine zk_iload_n (pc := 44) B dX12_pays_44 3 rfl rfl ?_
    refine zk_cpi (pc := 45) (k' := 0) (n' := 0) B rfl rfl (Nat.le_of_ble_eq_true rfl) (Nat.le_of_ble_eq_true rfl) (fun b hb => zr_V B hR kV_yX12_amountFor km_12_339 kx_12 (gModel_s ha) [.int v2, .int v3] rfl rfl (Nat.le_of_ble_eq_true rfl) dX12_pays_45 (m_Model_amountFor hX ha v2 v3 M b hb) ⟨Nat.le_of_ble_eq_true rfl, Nat.le_of_ble_eq_true rfl⟩ ⟨Nat.le_of_ble_eq_true rfl, Nat.le_of_ble_eq_true rfl⟩) (fun x5 _ => ?_)
    refine zk_istore (loc' := [(4, .int x5), (0, .ref a), (1, .int v1), (2, .int v2), (3, .int v3)]) (pc := 48) B dX12_pays_48 (by decide) rfl ?_
    refine zk_aload_n (pc := 50) B dX12_pays_50 1 rfl rfl ?_
    refine zk_iload_n (pc := 51) B dX12_pays_51 2 rfl rfl ?_
    refine zk_bipush (v := 10) (pc := 52) B dX12_pays_52 (by decide) ?_
    refine zk_iload (pc := 54) B dX12_pays_54 0 rfl ?_
    refine zk_cvm (pc := 56) (k' := 0) (n' := 0) B rfl rfl (Nat.le_of_ble_eq_true rfl) (Nat.le_of_ble_eq_true rfl) (fun b hb => zr_V B hR kV_yX12_grows km_12_336 kx_12 (gModel_s ha) [.int v1, .int 10, .int x5] rfl rfl (Nat.le_of_ble_eq_true rfl) dX12_pays_56 (m_Model_grows hX ha v1 10 x5 M b hb) ⟨Nat.le_of_ble_eq_true rfl, Nat.le_of_ble_eq_true rfl⟩ ⟨Nat.le_of_ble_eq_true rfl, Nat.le_of_ble_eq_true rfl⟩) (fun M6 => ?_)
    refine zk_aload_n (pc := 59) B dX12_pays_59 1 rfl rfl ?_
    refine zk_iload_n (pc := 60) B dX12_pays_60 2 rfl rfl ?_
    refine zk_iconst (v := 5) (pc := 61) B dX12_pays_61 (by decide) ?_
    refine zk_iload (pc := 62) B dX12_pays_62 0 rfl ?_
    refine zk_cvm (pc := 64) (k' := 0) (n' := 0) B rfl rfl (Nat.le_of_ble_eq_true rfl) (Nat.le_of_ble_eq_true rfl) (fun b hb => zr_V B hR kV_yX12_grows km_12_336 kx_12 (gModel_s ha) [.int v1, .int 5, .int x5] rfl rfl (Nat.le_of_ble_eq_true rfl) dX12_pays_64 (m_Model_grows hX ha v1 5 x5 M6 b hb) ⟨Nat.le_of_ble_eq_true rfl, Nat.le_of_ble_eq_true rfl⟩ ⟨Nat.le_of_ble_eq_true rfl, Nat.le_of_ble_eq_true rfl⟩) (fun M7 => ?_)
    refine zk_iconst (v := 0) (pc := 67) B dX12_pays_67 (by decide) ?_
    refine zk_istore (loc' := [(5, .int 0), (4, .int x5), (0, .ref a), (1, .int v1), (2, .int v2), (3, .int v3)]) (pc := 68) B dX12_pays_68 (by decide) rfl ?_
    refine zk_sub [2, 3, 5, 1, 0] rfl ?_
    exact L70 10000 v1 v3 x5 0 M7
  show z_K X F 7 0 0 G z_cvm b 0 0 0 [(0, .ref a), (1, .int p0), (2, .int p1)] [] M (F_Model_pays a p0 p1 M)
  unfold F_Model_pays
  refine zk_aload_n (pc := 0) B dX12_pays_0 0 rfl rfl ?_
  refine zk_iload_n (pc := 1) B dX12_pays_1 1 rfl rfl ?_
  refine zk_bipush (v := 24) (pc := 2) B dX12_pays_2 (by decide) ?_
  refine zk_cpi (pc := 4) (k' := 0) (n' := 0) B rfl rfl (Nat.le_of_ble_eq_true rfl) (Nat.le_of_ble_eq_true rfl) (fun b hb => zr_V B hR kV_yX12_in2 km_12_268 kx_12 (gModel_s ha) [.int p0, .int 24] rfl rfl (Nat.le_of_ble_eq_true rfl) dX12_pays_4 (m_Model_in2 hX ha p0 24 M b hb) ⟨Nat.le_of_ble_eq_true rfl, Nat.le_of_ble_eq_true rfl⟩ ⟨Nat.le_of_ble_eq_true rfl, Nat.le_of_ble_eq_true rfl⟩) (fun x1 _ => ?_)
  refine zk_istore_n (loc' := [(3, .int x1), (0, .ref a), (1, .int p0), (2, .int p1)]) (pc := 7) B dX12_pays_7 rfl (by decide) rfl ?_
  refine zk_aload_n (pc := 8) B dX12_pays_8 1 rfl rfl ?_
  refine zk_iload_n (pc := 9) B dX12_pays_9 2 rfl rfl ?_
  refine zk_bipush (v := 7) (pc := 10) B dX12_pays_10 (by decide) ?_
  refine zk_iload_n (pc := 12) B dX12_pays_12 3 rfl rfl ?_
  refine zk_cvm (pc := 13) (k' := 0) (n' := 0) B rfl rfl (Nat.le_of_ble_eq_true rfl) (Nat.le_of_ble_eq_true rfl) (fun b hb => zr_V B hR kV_yX12_grows km_12_336 kx_12 (gModel_s ha) [.int p0, .int 7, .int p1] rfl rfl (Nat.le_of_ble_eq_true rfl) dX12_pays_13 (m_Model_grows hX ha p0 7 p1 M b hb) ⟨Nat.le_of_ble_eq_true rfl, Nat.le_of_ble_eq_true rfl⟩ ⟨Nat.le_of_ble_eq_true rfl, Nat.le_of_ble_eq_true rfl⟩) (fun M2 => ?_)
  refine zk_iload_n (pc := 16) B dX12_pays_16 0 rfl rfl ?_
  refine zk_if_ne (tgt := 21) (pc := 17) B dX12_pays_17 (by decide) (fun _ => ?_) (fun _ => ?_)
  · refine zk_aload_n (pc := 21) B dX12_pays_21 1 rfl rfl ?_
    refine zk_iload_n (pc := 22) B dX12_pays_22 2 rfl rfl ?_
    refine zk_bipush (v := 8) (pc := 23) B dX12_pays_23 (by decide) ?_
    refine zk_iload_n (pc := 25) B dX12_pays_25 3 rfl rfl ?_
    refine zk_cvm (pc := 26) (k' := 0) (n' := 0) B rfl rfl (Nat.le_of_ble_eq_true rfl) (Nat.le_of_ble_eq_true rfl) (fun b hb => zr_V B hR kV_yX12_grows km_12_336 kx_12 (gModel_s ha) [.int p0, .int 8, .int p1] rfl rfl (Nat.le_of_ble_eq_true rfl) dX12_pays_26 (m_Model_grows hX ha p0 8 p1 M2 b hb) ⟨Nat.le_of_ble_eq_true rfl, Nat.le_of_ble_eq_true rfl⟩ ⟨Nat.le_of_ble_eq_true rfl, Nat.le_of_ble_eq_true rfl⟩) (fun M3 => ?_)
    refine zk_iload_n (pc := 29) B dX12_pays_29 0 rfl rfl ?_
    refine zk_iconst (v := 1) (pc := 30) B dX12_pays_30 (by decide) ?_
    refine zk_icmp_le (tgt := 42) (pc := 31) B dX12_pays_31 (by decide) (fun _ => ?_) (fun _ => ?_)
    · refine zk_sub [1, 2, 3, 0] rfl ?_
      exact J42 p0 p1 x1 M3
    · refine zk_aload_n (pc := 34) B dX12_pays_34 1 rfl rfl ?_
      refine zk_iload_n (pc := 35) B dX12_pays_35 2 rfl rfl ?_
      refine zk_bipush (v := 9) (pc := 36) B dX12_pays_36 (by decide) ?_
      refine zk_iload_n (pc := 38) B dX12_pays_38 3 rfl rfl ?_
      refine zk_cvm (pc := 39) (k' := 0) (n' := 0) B rfl rfl (Nat.le_of_ble_eq_true rfl) (Nat.le_of_ble_eq_true rfl) (fun b hb => zr_V B hR kV_yX12_grows km_12_336 kx_12 (gModel_s ha) [.int p0, .int 9, .int p1] rfl rfl (Nat.le_of_ble_eq_true rfl) dX12_pays_39 (m_Model_grows hX ha p0 9 p1 M3 b hb) ⟨Nat.le_of_ble_eq_true rfl, Nat.le_of_ble_eq_true rfl⟩ ⟨Nat.le_of_ble_eq_true rfl, Nat.le_of_ble_eq_true rfl⟩) (fun M4 => ?_)
      refine zk_sub [1, 2, 3, 0] rfl ?_
      exact J42 p0 p1 x1 M4
  · exact zk_vret (pc := 20) B dX12_pays_20 rfl (Nat.le_of_ble_eq_true rfl) (Nat.le_of_ble_eq_true rfl) rfl
set_option maxHeartbeats 4000000 in
set_option maxRecDepth 100000 in
theorem m_Model_charges {X : z_X} (hX : z_ok X) {G : z_Gr} {a : Nat} (ha : g_Model G a) (p0 : Int32) (p1 : Int32) (p2 : Int32) (M : z_Mem) (b : z_Mem) (h : F_Model_charges a p0 p1 p2 M = some b) : z_Ct X yX12_charges cX12_charges 4 none ({ frames := 1, cells := 0, slots := 0, locals := 23 } : Room) [.ref a, .int p0, .int p1, .int p2] G M (fun o9 G9 M9 => G9 = G ∧ (o9, M9) = z_cvm b) := by
  refine z_enter hX (by decide) (Nat.le_of_ble_eq_true rfl) h (fun F B hR => ?_)
  show z_K X F 4 0 0 G z_cvm b 0 0 0 [(0, .ref a), (1, .int p0), (2, .int p1), (3, .int p2)] [] M (F_Model_charges a p0 p1 p2 M)
  unfold F_Model_charges
  refine zk_aload_n (pc := 0) B dX12_charges_0 0 rfl rfl ?_
  refine zk_iload_n (pc := 1) B dX12_charges_1 2 rfl rfl ?_
  refine zk_bipush (v := 10) (pc := 2) B dX12_charges_2 (by decide) ?_
  refine zk_aload_n (pc := 4) B dX12_charges_4 0 rfl rfl ?_
  refine zk_iload_n (pc := 5) B dX12_charges_5 2 rfl rfl ?_
  refine zk_bipush (v := 10) (pc := 6) B dX12_charges_6 (by decide) ?_
  refine zk_cpi (pc := 8) (k' := 0) (n' := 0) B rfl rfl (Nat.le_of_ble_eq_true rfl) (Nat.le_of_ble_eq_true rfl) (fun b hb => zr_V B hR kV_yX12_of km_12_274 kx_12 (gModel_s ha) [.int p1, .int 10] rfl rfl (Nat.le_of_ble_eq_true rfl) dX12_charges_8 (m_Model_of hX ha p1 10 M b hb) ⟨Nat.le_of_ble_eq_true rfl, Nat.le_of_ble_eq_true rfl⟩ ⟨Nat.le_of_ble_eq_true rfl, Nat.le_of_ble_eq_true rfl⟩) (fun x1 _ => ?_)
  refine zk_iload_n (pc := 11) B dX12_charges_11 3 rfl rfl ?_
  refine zk_iadd (pc := 12) B dX12_charges_12 ?_
  refine zk_cvm (pc := 13) (k' := 0) (n' := 0) B rfl rfl (Nat.le_of_ble_eq_true rfl) (Nat.le_of_ble_eq_true rfl) (fun b hb => zr_V B hR kV_yX12_sets km_12_346 kx_12 (gModel_s ha) [.int p1, .int 10, .int (x1 + p2)] rfl rfl (Nat.le_of_ble_eq_true rfl) dX12_charges_13 (m_Model_sets hX ha p1 10 (x1 + p2) M b hb) ⟨Nat.le_of_ble_eq_true rfl, Nat.le_of_ble_eq_true rfl⟩ ⟨Nat.le_of_ble_eq_true rfl, Nat.le_of_ble_eq_true rfl⟩) (fun M2 => ?_)
  refine zk_aload_n (pc := 16) B dX12_charges_16 0 rfl rfl ?_
  refine zk_iload_n (pc := 17) B dX12_charges_17 1 rfl rfl ?_
  refine zk_iconst (v := 5) (pc := 18) B dX12_charges_18 (by decide) ?_
  refine zk_iload_n (pc := 19) B dX12_charges_19 3 rfl rfl ?_
  refine zk_cvm (pc := 20) (k' := 0) (n' := 0) B rfl rfl (Nat.le_of_ble_eq_true rfl) (Nat.le_of_ble_eq_true rfl) (fun b hb => zr_V B hR kV_yX12_grows km_12_336 kx_12 (gModel_s ha) [.int p0, .int 5, .int p2] rfl rfl (Nat.le_of_ble_eq_true rfl) dX12_charges_20 (m_Model_grows hX ha p0 5 p2 M2 b hb) ⟨Nat.le_of_ble_eq_true rfl, Nat.le_of_ble_eq_true rfl⟩ ⟨Nat.le_of_ble_eq_true rfl, Nat.le_of_ble_eq_true rfl⟩) (fun M3 => ?_)
  exact zk_vret (pc := 23) B dX12_charges_23 rfl (Nat.le_of_ble_eq_true rfl) (Nat.le_of_ble_eq_true rfl) rfl
set_option maxHeartbeats 4000000 in
set_option maxRecDepth 100000 in
theorem m_Model_getsOff {X : z_X} (hX : z_ok X) {G : z_Gr} {a : Nat} (ha : g_Model G a) (p0 : Int32) (p1 : Int32) (M : z_Mem) (b : z_Mem) (h : F_Model_getsOff a p0 p1 M = some b) : z_Ct X yX12_getsOff cX12_getsOff 6 none ({ frames := 1, cells := 0, slots := 0, locals := 23 } : Room) [.ref a, .int p0, .int p1] G M (fun o9 G9 M9 => G9 = G ∧ (o9, M9) = z_cvm b) := by
  refine z_enter hX (by decide) (Nat.le_of_ble_eq_true rfl) h (fun F B hR => ?_)
  have L5 : ∀ (nf5 : Nat), ∀ (v1 : Int32) (v2 : Int32) (v3 : Int32) (v4 : Int32) (M : z_Mem), z_K X F 6 0 0 G z_cvm b 0 0 5 [(0, .ref a), (1, .int v1), (2, .int v2), (3, .int v3), (4, .int v4)] [] M (F_Model_getsOff_L5 a nf5 v1 v2 v3 v4 M) := by
    intro nf5
    induction nf5 with
    | zero => intro v1 v2 v3 v4 M; exact zk_none
    | succ nf5 ih5 =>
      intro v1 v2 v3 v4 M
      show z_K X F 6 0 0 G z_cvm b 0 0 5 [(0, .ref a), (1, .int v1), (2, .int v2), (3, .int v3), (4, .int v4)] [] M (F_Model_getsOff_B5 a (F_Model_getsOff_L5 a nf5) v1 v2 v3 v4 M)
      unfold F_Model_getsOff_B5
      refine zk_iload (pc := 5) B dX12_getsOff_5 4 rfl ?_
      refine zk_aload_n (pc := 7) B dX12_getsOff_7 0 rfl rfl ?_
      refine zk_iload_n (pc := 8) B dX12_getsOff_8 1 rfl rfl ?_
      refine zk_bipush (v := 24) (pc := 9) B dX12_getsOff_9 (by decide) ?_
      refine zk_cpi (pc := 11) (k' := 0) (n' := 0) B rfl rfl (Nat.le_of_ble_eq_true rfl) (Nat.le_of_ble_eq_true rfl) (fun b hb => zr_V B hR kV_yX12_in2 km_12_268 kx_12 (gModel_s ha) [.int v1, .int 24] rfl rfl (Nat.le_of_ble_eq_true rfl) dX12_getsOff_11 (m_Model_in2 hX ha v1 24 M b hb) ⟨Nat.le_of_ble_eq_true rfl, Nat.le_of_ble_eq_true rfl⟩ ⟨Nat.le_of_ble_eq_true rfl, Nat.le_of_ble_eq_true rfl⟩) (fun x1 _ => ?_)
      refine zk_icmp_ge (tgt := 58) (pc := 14) B dX12_getsOff_14 (by decide) (fun _ => ?_) (fun _ => ?_)
      · refine zk_aload_n (pc := 58) B dX12_getsOff_58 0 rfl rfl ?_
        refine zk_iload_n (pc := 59) B dX12_getsOff_59 1 rfl rfl ?_
        refine zk_bipush (v := 24) (pc := 60) B dX12_getsOff_60 (by decide) ?_
        refine zk_iload_n (pc := 62) B dX12_getsOff_62 3 rfl rfl ?_
        refine zk_cvm (pc := 63) (k' := 0) (n' := 0) B rfl rfl (Nat.le_of_ble_eq_true rfl) (Nat.le_of_ble_eq_true rfl) (fun b hb => zr_V B hR kV_yX12_lays2 km_12_326 kx_12 (gModel_s ha) [.int v1, .int 24, .int v3] rfl rfl (Nat.le_of_ble_eq_true rfl) dX12_getsOff_63 (m_Model_lays2 hX ha v1 24 v3 M b hb) ⟨Nat.le_of_ble_eq_true rfl, Nat.le_of_ble_eq_true rfl⟩ ⟨Nat.le_of_ble_eq_true rfl, Nat.le_of_ble_eq_true rfl⟩) (fun M2 => ?_)
        exact zk_vret (pc := 66) B dX12_getsOff_66 rfl (Nat.le_of_ble_eq_true rfl) (Nat.le_of_ble_eq_true rfl) rfl
      · refine zk_aload_n (pc := 17) B dX12_getsOff_17 0 rfl rfl ?_
        refine zk_iload_n (pc := 18) B dX12_getsOff_18 1 rfl rfl ?_
        refine zk_bipush (v := 25) (pc := 19) B dX12_getsOff_19 (by decide) ?_
        refine zk_iload (pc := 21) B dX12_getsOff_21 4 rfl ?_
        refine zk_iadd (pc := 23) B dX12_getsOff_23 ?_
        refine zk_cpi (pc := 24) (k' := 0) (n' := 0) B rfl rfl (Nat.le_of_ble_eq_true rfl) (Nat.le_of_ble_eq_true rfl) (fun b hb => zr_V B hR kV_yX12_in2 km_12_268 kx_12 (gModel_s ha) [.int v1, .int (25 + v4)] rfl rfl (Nat.le_of_ble_eq_true rfl) dX12_getsOff_24 (m_Model_in2 hX ha v1 (25 + v4) M b hb) ⟨Nat.le_of_ble_eq_true rfl, Nat.le_of_ble_eq_true rfl⟩ ⟨Nat.le_of_ble_eq_true rfl, Nat.le_of_ble_eq_true rfl⟩) (fun x3 _ => ?_)
        refine zk_istore (loc' := [(5, .int x3), (0, .ref a), (1, .int v1), (2, .int v2), (3, .int v3), (4, .int v4)]) (pc := 27) B dX12_getsOff_27 (by decide) rfl ?_
        refine zk_iload (pc := 29) B dX12_getsOff_29 0 rfl ?_
        refine zk_iload_n (pc := 31) B dX12_getsOff_31 3 rfl rfl ?_
        refine zk_icmp_ne (tgt := 38) (pc := 32) B dX12_getsOff_32 (by decide) (fun _ => ?_) (fun _ => ?_)
        · refine zk_aload_n (pc := 38) B dX12_getsOff_38 1 rfl rfl ?_
          refine zk_iload_n (pc := 39) B dX12_getsOff_39 2 rfl rfl ?_
          refine zk_bipush (v := 25) (pc := 40) B dX12_getsOff_40 (by decide) ?_
          refine zk_iload_n (pc := 42) B dX12_getsOff_42 4 rfl rfl ?_
          refine zk_iadd (pc := 43) B dX12_getsOff_43 ?_
          refine zk_iload (pc := 44) B dX12_getsOff_44 0 rfl ?_
          refine zk_cvm (pc := 46) (k' := 0) (n' := 0) B rfl rfl (Nat.le_of_ble_eq_true rfl) (Nat.le_of_ble_eq_true rfl) (fun b hb => zr_V B hR kV_yX12_lays2 km_12_326 kx_12 (gModel_s ha) [.int v1, .int (25 + v3), .int x3] rfl rfl (Nat.le_of_ble_eq_true rfl) dX12_getsOff_46 (m_Model_lays2 hX ha v1 (25 + v3) x3 M b hb) ⟨Nat.le_of_ble_eq_true rfl, Nat.le_of_ble_eq_true rfl⟩ ⟨Nat.le_of_ble_eq_true rfl, Nat.le_of_ble_eq_true rfl⟩) (fun M4 => ?_)
          refine zk_iinc (y := 1) (lf := fun x5 => [(3, .int x5), (5, .int x3), (0, .ref a), (1, .int v1), (2, .int v2), (4, .int v4)]) (pc := 49) B dX12_getsOff_49 4 rfl (by decide) (by decide) (fun _ => rfl) (fun x5 => ?_)
          refine zk_iinc (y := 1) (lf := fun x6 => [(4, .int x6), (3, .int x5), (5, .int x3), (0, .ref a), (1, .int v1), (2, .int v2)]) (pc := 52) B dX12_getsOff_52 5 rfl (by decide) (by decide) (fun _ => rfl) (fun x6 => ?_)
          refine zk_goto (tgt := 5) (pc := 55) B dX12_getsOff_55 (by decide) ?_
          refine zk_sub [3, 4, 5, 1, 0] rfl ?_
          exact ih5 v1 v2 x5 x6 M4
        · refine zk_goto (tgt := 52) (pc := 35) B dX12_getsOff_35 (by decide) ?_
          refine zk_iinc (y := 1) (lf := fun x7 => [(4, .int x7), (5, .int x3), (0, .ref a), (1, .int v1), (2, .int v2), (3, .int v3)]) (pc := 52) B dX12_getsOff_52 5 rfl (by decide) (by decide) (fun _ => rfl) (fun x7 => ?_)
          refine zk_goto (tgt := 5) (pc := 55) B dX12_getsOff_55 (by decide) ?_
          refine zk_sub [2, 3, 4, 5, 0] rfl ?_
          exact ih5 v1 v2 v3 x7 M
  show z_K X F 6 0 0 G z_cvm b 0 0 0 [(0, .ref a), (1, .int p0), (2, .int p1)] [] M (F_Model_getsOff a p0 p1 M)
  unfold F_Model_getsOff
  refine zk_iconst (v := 0) (pc := 0) B dX12_getsOff_0 (by decide) ?_
  refine zk_istore_n (loc' := [(3, .int 0), (0, .ref a), (1, .int p0), (2, .int p1)]) (pc := 1) B dX12_getsOff_1 rfl (by decide) rfl ?_
  refine zk_iconst (v := 0) (pc := 2) B dX12_getsOff_2 (by decide) ?_
  refine zk_istore (loc' := [(4, .int 0), (3, .int 0), (0, .ref a), (1, .int p0), (2, .int p1)]) (pc := 3) B dX12_getsOff_3 (by decide) rfl ?_
  refine zk_sub [2, 3, 4, 1, 0] rfl ?_
  exact L5 10000 p0 p1 0 0 M
set_option maxHeartbeats 4000000 in
set_option maxRecDepth 100000 in
theorem m_Model_happens {X : z_X} (hX : z_ok X) {G : z_Gr} {a : Nat} (ha : g_Model G a) (p0 : Int32) (p1 : Int32) (M : z_Mem) (b : z_Mem) (h : F_Model_happens a p0 p1 M = some b) : z_Ct X yX12_happens cX12_happens 4 none ({ frames := 4, cells := 0, slots := 0, locals := 91 } : Room) [.ref a, .int p0, .int p1] G M (fun o9 G9 M9 => G9 = G ∧ (o9, M9) = z_cvm b) := by
  refine z_enter hX (by decide) (Nat.le_of_ble_eq_true rfl) h (fun F B hR => ?_)
  have J159 : ∀ (v1 : Int32) (v2 : Int32) (M : z_Mem), z_K X F 4 0 0 G z_cvm b 0 0 159 [(0, .ref a), (1, .int v1), (2, .int v2)] [] M (F_Model_happens_J159 a v1 v2 M) := by
    intro v1 v2 M
    unfold F_Model_happens_J159
    refine zk_aload_n (pc := 159) B dX12_happens_159 0 rfl rfl ?_
    refine zk_iload_n (pc := 160) B dX12_happens_160 1 rfl rfl ?_
    refine zk_iconst (v := 0) (pc := 161) B dX12_happens_161 (by decide) ?_
    refine zk_aload_n (pc := 162) B dX12_happens_162 0 rfl rfl ?_
    refine zk_aload_n (pc := 163) B dX12_happens_163 0 rfl rfl ?_
    refine zk_getr (pc := 164) B kx_12 (gModel_s ha) 32 (by decide) kf_12_50 rfl (gModel_f32 ha) dX12_happens_164 ?_
    refine zk_iload_n (pc := 167) B dX12_happens_167 2 rfl rfl ?_
    refine zk_iald (pc := 168) B (gModel_t32 ha) dX12_happens_168 ?_
    refine zk_cpi (pc := 169) (k' := 0) (n' := 0) B rfl rfl (Nat.le_of_ble_eq_true rfl) (Nat.le_of_ble_eq_true rfl) (fun b hb => zr_V B hR kV_yX12_zoneOf km_12_283 kx_12 (gModel_s ha) [.int (M.1 (a + 13) v2.toNatClampNeg)] rfl rfl (Nat.le_of_ble_eq_true rfl) dX12_happens_169 (m_Model_zoneOf hX ha (M.1 (a + 13) v2.toNatClampNeg) M b hb) ⟨Nat.le_of_ble_eq_true rfl, Nat.le_of_ble_eq_true rfl⟩ ⟨Nat.le_of_ble_eq_true rfl, Nat.le_of_ble_eq_true rfl⟩) (fun x17 _ => ?_)
    refine zk_cvm (pc := 172) (k' := 0) (n' := 0) B rfl rfl (Nat.le_of_ble_eq_true rfl) (Nat.le_of_ble_eq_true rfl) (fun b hb => zr_V B hR kV_yX12_lays2 km_12_326 kx_12 (gModel_s ha) [.int v1, .int 0, .int x17] rfl rfl (Nat.le_of_ble_eq_true rfl) dX12_happens_172 (m_Model_lays2 hX ha v1 0 x17 M b hb) ⟨Nat.le_of_ble_eq_true rfl, Nat.le_of_ble_eq_true rfl⟩ ⟨Nat.le_of_ble_eq_true rfl, Nat.le_of_ble_eq_true rfl⟩) (fun M18 => ?_)
    refine zk_aload_n (pc := 175) B dX12_happens_175 0 rfl rfl ?_
    refine zk_iload_n (pc := 176) B dX12_happens_176 1 rfl rfl ?_
    refine zk_iconst (v := 1) (pc := 177) B dX12_happens_177 (by decide) ?_
    refine zk_aload_n (pc := 178) B dX12_happens_178 0 rfl rfl ?_
    refine zk_getr (pc := 179) B kx_12 (gModel_s ha) 35 (by decide) kf_12_59 rfl (gModel_f35 ha) dX12_happens_179 ?_
    refine zk_iload_n (pc := 182) B dX12_happens_182 2 rfl rfl ?_
    refine zk_iald (pc := 183) B (gModel_t35 ha) dX12_happens_183 ?_
    refine zk_cvm (pc := 184) (k' := 0) (n' := 0) B rfl rfl (Nat.le_of_ble_eq_true rfl) (Nat.le_of_ble_eq_true rfl) (fun b hb => zr_V B hR kV_yX12_lays2 km_12_326 kx_12 (gModel_s ha) [.int v1, .int 1, .int (M18.1 (a + 16) v2.toNatClampNeg)] rfl rfl (Nat.le_of_ble_eq_true rfl) dX12_happens_184 (m_Model_lays2 hX ha v1 1 (M18.1 (a + 16) v2.toNatClampNeg) M18 b hb) ⟨Nat.le_of_ble_eq_true rfl, Nat.le_of_ble_eq_true rfl⟩ ⟨Nat.le_of_ble_eq_true rfl, Nat.le_of_ble_eq_true rfl⟩) (fun M19 => ?_)
    refine zk_aload_n (pc := 187) B dX12_happens_187 0 rfl rfl ?_
    refine zk_iload_n (pc := 188) B dX12_happens_188 1 rfl rfl ?_
    refine zk_iconst (v := 2) (pc := 189) B dX12_happens_189 (by decide) ?_
    refine zk_aload_n (pc := 190) B dX12_happens_190 0 rfl rfl ?_
    refine zk_getr (pc := 191) B kx_12 (gModel_s ha) 36 (by decide) kf_12_62 rfl (gModel_f36 ha) dX12_happens_191 ?_
    refine zk_iload_n (pc := 194) B dX12_happens_194 2 rfl rfl ?_
    refine zk_iald (pc := 195) B (gModel_t36 ha) dX12_happens_195 ?_
    refine zk_cvm (pc := 196) (k' := 0) (n' := 0) B rfl rfl (Nat.le_of_ble_eq_true rfl) (Nat.le_of_ble_eq_true rfl) (fun b hb => zr_V B hR kV_yX12_lays2 km_12_326 kx_12 (gModel_s ha) [.int v1, .int 2, .int (M19.1 (a + 17) v2.toNatClampNeg)] rfl rfl (Nat.le_of_ble_eq_true rfl) dX12_happens_196 (m_Model_lays2 hX ha v1 2 (M19.1 (a + 17) v2.toNatClampNeg) M19 b hb) ⟨Nat.le_of_ble_eq_true rfl, Nat.le_of_ble_eq_true rfl⟩ ⟨Nat.le_of_ble_eq_true rfl, Nat.le_of_ble_eq_true rfl⟩) (fun M20 => ?_)
    exact zk_vret (pc := 199) B dX12_happens_199 rfl (Nat.le_of_ble_eq_true rfl) (Nat.le_of_ble_eq_true rfl) rfl
  show z_K X F 4 0 0 G z_cvm b 0 0 0 [(0, .ref a), (1, .int p0), (2, .int p1)] [] M (F_Model_happens a p0 p1 M)
  unfold F_Model_happens
  refine zk_aload_n (pc := 0) B dX12_happens_0 0 rfl rfl ?_
  refine zk_getr (pc := 1) B kx_12 (gModel_s ha) 32 (by decide) kf_12_50 rfl (gModel_f32 ha) dX12_happens_1 ?_
  refine zk_iload_n (pc := 4) B dX12_happens_4 2 rfl rfl ?_
  refine zk_iald (pc := 5) B (gModel_t32 ha) dX12_happens_5 ?_
  refine zk_iconst (v := 2) (pc := 6) B dX12_happens_6 (by decide) ?_
  refine zk_idiv (pc := 7) B dX12_happens_7 (by decide) ?_
  refine zk_li (fun x1 => ?_)
  refine zk_istore_n (loc' := [(3, .int x1), (0, .ref a), (1, .int p0), (2, .int p1)]) (pc := 8) B dX12_happens_8 rfl (by decide) rfl ?_
  refine zk_aload_n (pc := 9) B dX12_happens_9 1 rfl rfl ?_
  refine zk_iload_n (pc := 10) B dX12_happens_10 2 rfl rfl ?_
  refine zk_aload_n (pc := 11) B dX12_happens_11 1 rfl rfl ?_
  refine zk_getr (pc := 12) B kx_12 (gModel_s ha) 37 (by decide) kf_12_65 rfl (gModel_f37 ha) dX12_happens_12 ?_
  refine zk_iload_n (pc := 15) B dX12_happens_15 3 rfl rfl ?_
  refine zk_iald (pc := 16) B (gModel_t37 ha) dX12_happens_16 ?_
  refine zk_cvm (pc := 17) (k' := 0) (n' := 0) B rfl rfl (Nat.le_of_ble_eq_true rfl) (Nat.le_of_ble_eq_true rfl) (fun b hb => zr_V B hR kV_yX12_pays km_12_349 kx_12 (gModel_s ha) [.int p0, .int (M.1 (a + 18) p1.toNatClampNeg)] rfl rfl (Nat.le_of_ble_eq_true rfl) dX12_happens_17 (m_Model_pays hX ha p0 (M.1 (a + 18) p1.toNatClampNeg) M b hb) ⟨Nat.le_of_ble_eq_true rfl, Nat.le_of_ble_eq_true rfl⟩ ⟨Nat.le_of_ble_eq_true rfl, Nat.le_of_ble_eq_true rfl⟩) (fun M2 => ?_)
  refine zk_aload_n (pc := 20) B dX12_happens_20 1 rfl rfl ?_
  refine zk_getr (pc := 21) B kx_12 (gModel_s ha) 32 (by decide) kf_12_50 rfl (gModel_f32 ha) dX12_happens_21 ?_
  refine zk_iload_n (pc := 24) B dX12_happens_24 3 rfl rfl ?_
  refine zk_iald (pc := 25) B (gModel_t32 ha) dX12_happens_25 ?_
  refine zk_iconst (v := 1) (pc := 26) B dX12_happens_26 (by decide) ?_
  refine zk_iand (pc := 27) B dX12_happens_27 ?_
  refine zk_if_ne (tgt := 60) (pc := 28) B dX12_happens_28 (by decide) (fun _ => ?_) (fun _ => ?_)
  · refine zk_aload_n (pc := 60) B dX12_happens_60 1 rfl rfl ?_
    refine zk_iload_n (pc := 61) B dX12_happens_61 0 rfl rfl ?_
    refine zk_bipush (v := 11) (pc := 62) B dX12_happens_62 (by decide) ?_
    refine zk_cpi (pc := 64) (k' := 0) (n' := 0) B rfl rfl (Nat.le_of_ble_eq_true rfl) (Nat.le_of_ble_eq_true rfl) (fun b hb => zr_V B hR kV_yX12_of km_12_274 kx_12 (gModel_s ha) [.int x1, .int 11] rfl rfl (Nat.le_of_ble_eq_true rfl) dX12_happens_64 (m_Model_of hX ha x1 11 M2 b hb) ⟨Nat.le_of_ble_eq_true rfl, Nat.le_of_ble_eq_true rfl⟩ ⟨Nat.le_of_ble_eq_true rfl, Nat.le_of_ble_eq_true rfl⟩) (fun x3 _ => ?_)
    refine zk_iconst (v := 1) (pc := 67) B dX12_happens_67 (by decide) ?_
    refine zk_icmp_ne (tgt := 105) (pc := 68) B dX12_happens_68 (by decide) (fun _ => ?_) (fun _ => ?_)
    · refine zk_aload_n (pc := 105) B dX12_happens_105 1 rfl rfl ?_
      refine zk_iload_n (pc := 106) B dX12_happens_106 2 rfl rfl ?_
      refine zk_iload_n (pc := 107) B dX12_happens_107 0 rfl rfl ?_
      refine zk_aload_n (pc := 108) B dX12_happens_108 1 rfl rfl ?_
      refine zk_geti (pc := 109) B kx_12 (gModel_s ha) 18 (by decide) kf_12_117 rfl dX12_happens_109 ?_
      refine zk_cvm (pc := 112) (k' := 0) (n' := 0) B rfl rfl (Nat.le_of_ble_eq_true rfl) (Nat.le_of_ble_eq_true rfl) (fun b hb => zr_V B hR kV_yX12_charges km_12_356 kx_12 (gModel_s ha) [.int p0, .int x1, .int (M2.1 a 18)] rfl rfl (Nat.le_of_ble_eq_true rfl) dX12_happens_112 (m_Model_charges hX ha p0 x1 (M2.1 a 18) M2 b hb) ⟨Nat.le_of_ble_eq_true rfl, Nat.le_of_ble_eq_true rfl⟩ ⟨Nat.le_of_ble_eq_true rfl, Nat.le_of_ble_eq_true rfl⟩) (fun M4 => ?_)
      refine zk_aload_n (pc := 115) B dX12_happens_115 1 rfl rfl ?_
      refine zk_iload_n (pc := 116) B dX12_happens_116 0 rfl rfl ?_
      refine zk_iconst (v := 0) (pc := 117) B dX12_happens_117 (by decide) ?_
      refine zk_iconst (v := 2) (pc := 118) B dX12_happens_118 (by decide) ?_
      refine zk_cvm (pc := 119) (k' := 0) (n' := 0) B rfl rfl (Nat.le_of_ble_eq_true rfl) (Nat.le_of_ble_eq_true rfl) (fun b hb => zr_V B hR kV_yX12_sets km_12_346 kx_12 (gModel_s ha) [.int x1, .int 0, .int 2] rfl rfl (Nat.le_of_ble_eq_true rfl) dX12_happens_119 (m_Model_sets hX ha x1 0 2 M4 b hb) ⟨Nat.le_of_ble_eq_true rfl, Nat.le_of_ble_eq_true rfl⟩ ⟨Nat.le_of_ble_eq_true rfl, Nat.le_of_ble_eq_true rfl⟩) (fun M5 => ?_)
      refine zk_aload_n (pc := 122) B dX12_happens_122 1 rfl rfl ?_
      refine zk_iload_n (pc := 123) B dX12_happens_123 0 rfl rfl ?_
      refine zk_bipush (v := 8) (pc := 124) B dX12_happens_124 (by decide) ?_
      refine zk_aload_n (pc := 126) B dX12_happens_126 1 rfl rfl ?_
      refine zk_getr (pc := 127) B kx_12 (gModel_s ha) 35 (by decide) kf_12_59 rfl (gModel_f35 ha) dX12_happens_127 ?_
      refine zk_iload_n (pc := 130) B dX12_happens_130 3 rfl rfl ?_
      refine zk_iald (pc := 131) B (gModel_t35 ha) dX12_happens_131 ?_
      refine zk_cvm (pc := 132) (k' := 0) (n' := 0) B rfl rfl (Nat.le_of_ble_eq_true rfl) (Nat.le_of_ble_eq_true rfl) (fun b hb => zr_V B hR kV_yX12_sets km_12_346 kx_12 (gModel_s ha) [.int x1, .int 8, .int (M5.1 (a + 16) p1.toNatClampNeg)] rfl rfl (Nat.le_of_ble_eq_true rfl) dX12_happens_132 (m_Model_sets hX ha x1 8 (M5.1 (a + 16) p1.toNatClampNeg) M5 b hb) ⟨Nat.le_of_ble_eq_true rfl, Nat.le_of_ble_eq_true rfl⟩ ⟨Nat.le_of_ble_eq_true rfl, Nat.le_of_ble_eq_true rfl⟩) (fun M6 => ?_)
      refine zk_aload_n (pc := 135) B dX12_happens_135 1 rfl rfl ?_
      refine zk_iload_n (pc := 136) B dX12_happens_136 2 rfl rfl ?_
      refine zk_bipush (v := 25) (pc := 137) B dX12_happens_137 (by decide) ?_
      refine zk_aload_n (pc := 139) B dX12_happens_139 1 rfl rfl ?_
      refine zk_iload_n (pc := 140) B dX12_happens_140 2 rfl rfl ?_
      refine zk_bipush (v := 24) (pc := 141) B dX12_happens_141 (by decide) ?_
      refine zk_cpi (pc := 143) (k' := 0) (n' := 0) B rfl rfl (Nat.le_of_ble_eq_true rfl) (Nat.le_of_ble_eq_true rfl) (fun b hb => zr_V B hR kV_yX12_in2 km_12_268 kx_12 (gModel_s ha) [.int p0, .int 24] rfl rfl (Nat.le_of_ble_eq_true rfl) dX12_happens_143 (m_Model_in2 hX ha p0 24 M6 b hb) ⟨Nat.le_of_ble_eq_true rfl, Nat.le_of_ble_eq_true rfl⟩ ⟨Nat.le_of_ble_eq_true rfl, Nat.le_of_ble_eq_true rfl⟩) (fun x7 _ => ?_)
      refine zk_iadd (pc := 146) B dX12_happens_146 ?_
      refine zk_iload_n (pc := 147) B dX12_happens_147 0 rfl rfl ?_
      refine zk_cvm (pc := 148) (k' := 0) (n' := 0) B rfl rfl (Nat.le_of_ble_eq_true rfl) (Nat.le_of_ble_eq_true rfl) (fun b hb => zr_V B hR kV_yX12_lays2 km_12_326 kx_12 (gModel_s ha) [.int p0, .int (25 + x7), .int x1] rfl rfl (Nat.le_of_ble_eq_true rfl) dX12_happens_148 (m_Model_lays2 hX ha p0 (25 + x7) x1 M6 b hb) ⟨Nat.le_of_ble_eq_true rfl, Nat.le_of_ble_eq_true rfl⟩ ⟨Nat.le_of_ble_eq_true rfl, Nat.le_of_ble_eq_true rfl⟩) (fun M8 => ?_)
      refine zk_aload_n (pc := 151) B dX12_happens_151 1 rfl rfl ?_
      refine zk_iload_n (pc := 152) B dX12_happens_152 2 rfl rfl ?_
      refine zk_bipush (v := 24) (pc := 153) B dX12_happens_153 (by decide) ?_
      refine zk_iconst (v := 1) (pc := 155) B dX12_happens_155 (by decide) ?_
      refine zk_cvm (pc := 156) (k' := 0) (n' := 0) B rfl rfl (Nat.le_of_ble_eq_true rfl) (Nat.le_of_ble_eq_true rfl) (fun b hb => zr_V B hR kV_yX12_grows km_12_336 kx_12 (gModel_s ha) [.int p0, .int 24, .int 1] rfl rfl (Nat.le_of_ble_eq_true rfl) dX12_happens_156 (m_Model_grows hX ha p0 24 1 M8 b hb) ⟨Nat.le_of_ble_eq_true rfl, Nat.le_of_ble_eq_true rfl⟩ ⟨Nat.le_of_ble_eq_true rfl, Nat.le_of_ble_eq_true rfl⟩) (fun M9 => ?_)
      refine zk_sub [1, 2, 3] rfl ?_
      exact J159 p0 p1 M9
    · refine zk_aload_n (pc := 71) B dX12_happens_71 1 rfl rfl ?_
      refine zk_iload_n (pc := 72) B dX12_happens_72 2 rfl rfl ?_
      refine zk_iload_n (pc := 73) B dX12_happens_73 0 rfl rfl ?_
      refine zk_aload_n (pc := 74) B dX12_happens_74 1 rfl rfl ?_
      refine zk_iconst (v := 4) (pc := 75) B dX12_happens_75 (by decide) ?_
      refine zk_cpi (pc := 76) (k' := 0) (n' := 0) B rfl rfl (Nat.le_of_ble_eq_true rfl) (Nat.le_of_ble_eq_true rfl) (fun b hb => zr_V B hR kV_yX12_ruled km_12_292 kx_12 (gModel_s ha) [.int 4] rfl rfl (Nat.le_of_ble_eq_true rfl) dX12_happens_76 (m_Model_ruled hX ha 4 M2 b hb) ⟨Nat.le_of_ble_eq_true rfl, Nat.le_of_ble_eq_true rfl⟩ ⟨Nat.le_of_ble_eq_true rfl, Nat.le_of_ble_eq_true rfl⟩) (fun x10 _ => ?_)
      refine zk_cvm (pc := 79) (k' := 0) (n' := 0) B rfl rfl (Nat.le_of_ble_eq_true rfl) (Nat.le_of_ble_eq_true rfl) (fun b hb => zr_V B hR kV_yX12_charges km_12_356 kx_12 (gModel_s ha) [.int p0, .int x1, .int x10] rfl rfl (Nat.le_of_ble_eq_true rfl) dX12_happens_79 (m_Model_charges hX ha p0 x1 x10 M2 b hb) ⟨Nat.le_of_ble_eq_true rfl, Nat.le_of_ble_eq_true rfl⟩ ⟨Nat.le_of_ble_eq_true rfl, Nat.le_of_ble_eq_true rfl⟩) (fun M11 => ?_)
      refine zk_aload_n (pc := 82) B dX12_happens_82 1 rfl rfl ?_
      refine zk_iload_n (pc := 83) B dX12_happens_83 0 rfl rfl ?_
      refine zk_iconst (v := 0) (pc := 84) B dX12_happens_84 (by decide) ?_
      refine zk_iconst (v := 5) (pc := 85) B dX12_happens_85 (by decide) ?_
      refine zk_cvm (pc := 86) (k' := 0) (n' := 0) B rfl rfl (Nat.le_of_ble_eq_true rfl) (Nat.le_of_ble_eq_true rfl) (fun b hb => zr_V B hR kV_yX12_sets km_12_346 kx_12 (gModel_s ha) [.int x1, .int 0, .int 5] rfl rfl (Nat.le_of_ble_eq_true rfl) dX12_happens_86 (m_Model_sets hX ha x1 0 5 M11 b hb) ⟨Nat.le_of_ble_eq_true rfl, Nat.le_of_ble_eq_true rfl⟩ ⟨Nat.le_of_ble_eq_true rfl, Nat.le_of_ble_eq_true rfl⟩) (fun M12 => ?_)
      refine zk_aload_n (pc := 89) B dX12_happens_89 1 rfl rfl ?_
      refine zk_iload_n (pc := 90) B dX12_happens_90 0 rfl rfl ?_
      refine zk_bipush (v := 8) (pc := 91) B dX12_happens_91 (by decide) ?_
      refine zk_aload_n (pc := 93) B dX12_happens_93 1 rfl rfl ?_
      refine zk_getr (pc := 94) B kx_12 (gModel_s ha) 35 (by decide) kf_12_59 rfl (gModel_f35 ha) dX12_happens_94 ?_
      refine zk_iload_n (pc := 97) B dX12_happens_97 3 rfl rfl ?_
      refine zk_iald (pc := 98) B (gModel_t35 ha) dX12_happens_98 ?_
      refine zk_cvm (pc := 99) (k' := 0) (n' := 0) B rfl rfl (Nat.le_of_ble_eq_true rfl) (Nat.le_of_ble_eq_true rfl) (fun b hb => zr_V B hR kV_yX12_sets km_12_346 kx_12 (gModel_s ha) [.int x1, .int 8, .int (M12.1 (a + 16) p1.toNatClampNeg)] rfl rfl (Nat.le_of_ble_eq_true rfl) dX12_happens_99 (m_Model_sets hX ha x1 8 (M12.1 (a + 16) p1.toNatClampNeg) M12 b hb) ⟨Nat.le_of_ble_eq_true rfl, Nat.le_of_ble_eq_true rfl⟩ ⟨Nat.le_of_ble_eq_true rfl, Nat.le_of_ble_eq_true rfl⟩) (fun M13 => ?_)
      refine zk_goto (tgt := 159) (pc := 102) B dX12_happens_102 (by decide) ?_
      refine zk_sub [1, 2, 3] rfl ?_
      exact J159 p0 p1 M13
  · refine zk_aload_n (pc := 31) B dX12_happens_31 1 rfl rfl ?_
    refine zk_iload_n (pc := 32) B dX12_happens_32 2 rfl rfl ?_
    refine zk_iload_n (pc := 33) B dX12_happens_33 0 rfl rfl ?_
    refine zk_cvm (pc := 34) (k' := 0) (n' := 0) B rfl rfl (Nat.le_of_ble_eq_true rfl) (Nat.le_of_ble_eq_true rfl) (fun b hb => zr_V B hR kV_yX12_getsOff km_12_353 kx_12 (gModel_s ha) [.int p0, .int x1] rfl rfl (Nat.le_of_ble_eq_true rfl) dX12_happens_34 (m_Model_getsOff hX ha p0 x1 M2 b hb) ⟨Nat.le_of_ble_eq_true rfl, Nat.le_of_ble_eq_true rfl⟩ ⟨Nat.le_of_ble_eq_true rfl, Nat.le_of_ble_eq_true rfl⟩) (fun M14 => ?_)
    refine zk_aload_n (pc := 37) B dX12_happens_37 1 rfl rfl ?_
    refine zk_iload_n (pc := 38) B dX12_happens_38 0 rfl rfl ?_
    refine zk_iconst (v := 0) (pc := 39) B dX12_happens_39 (by decide) ?_
    refine zk_iconst (v := 3) (pc := 40) B dX12_happens_40 (by decide) ?_
    refine zk_cvm (pc := 41) (k' := 0) (n' := 0) B rfl rfl (Nat.le_of_ble_eq_true rfl) (Nat.le_of_ble_eq_true rfl) (fun b hb => zr_V B hR kV_yX12_sets km_12_346 kx_12 (gModel_s ha) [.int x1, .int 0, .int 3] rfl rfl (Nat.le_of_ble_eq_true rfl) dX12_happens_41 (m_Model_sets hX ha x1 0 3 M14 b hb) ⟨Nat.le_of_ble_eq_true rfl, Nat.le_of_ble_eq_true rfl⟩ ⟨Nat.le_of_ble_eq_true rfl, Nat.le_of_ble_eq_true rfl⟩) (fun M15 => ?_)
    refine zk_aload_n (pc := 44) B dX12_happens_44 1 rfl rfl ?_
    refine zk_iload_n (pc := 45) B dX12_happens_45 0 rfl rfl ?_
    refine zk_bipush (v := 9) (pc := 46) B dX12_happens_46 (by decide) ?_
    refine zk_aload_n (pc := 48) B dX12_happens_48 1 rfl rfl ?_
    refine zk_getr (pc := 49) B kx_12 (gModel_s ha) 34 (by decide) kf_12_56 rfl (gModel_f34 ha) dX12_happens_49 ?_
    refine zk_iload_n (pc := 52) B dX12_happens_52 3 rfl rfl ?_
    refine zk_iald (pc := 53) B (gModel_t34 ha) dX12_happens_53 ?_
    refine zk_cvm (pc := 54) (k' := 0) (n' := 0) B rfl rfl (Nat.le_of_ble_eq_true rfl) (Nat.le_of_ble_eq_true rfl) (fun b hb => zr_V B hR kV_yX12_sets km_12_346 kx_12 (gModel_s ha) [.int x1, .int 9, .int (M15.1 (a + 15) p1.toNatClampNeg)] rfl rfl (Nat.le_of_ble_eq_true rfl) dX12_happens_54 (m_Model_sets hX ha x1 9 (M15.1 (a + 15) p1.toNatClampNeg) M15 b hb) ⟨Nat.le_of_ble_eq_true rfl, Nat.le_of_ble_eq_true rfl⟩ ⟨Nat.le_of_ble_eq_true rfl, Nat.le_of_ble_eq_true rfl⟩) (fun M16 => ?_)
    refine zk_goto (tgt := 159) (pc := 57) B dX12_happens_57 (by decide) ?_
    refine zk_sub [1, 2, 3] rfl ?_
    exact J159 p0 p1 M16
set_option maxHeartbeats 4000000 in
set_option maxRecDepth 100000 in
theorem m_Model_goesOn {X : z_X} (hX : z_ok X) {G : z_Gr} {a : Nat} (ha : g_Model G a) (p0 : Int32) (p1 : Int32) (M : z_Mem) (b : Int32 × z_Mem) (h : F_Model_goesOn a p0 p1 M = some b) : z_Ct X yX12_goesOn cX12_goesOn 7 (some .int) ({ frames := 5, cells := 0, slots := 0, locals := 114 } : Room) [.ref a, .int p0, .int p1] G M (fun o9 G9 M9 => G9 = G ∧ (o9, M9) = z_cim b) := by
  refine z_enter hX (by decide) (Nat.le_of_ble_eq_true rfl) h (fun F B hR => ?_)
  have J153 : ∀ (v3 : Int32) (s0 : Int32) (s1 : Int32) (s2 : Int32) (M : z_Mem), z_K X F 7 0 0 G z_cim b 0 0 153 [(3, .int v3)] [.int s0, .int s1, .int s2, .ref a] M (F_Model_goesOn_J153 a v3 s0 s1 s2 M) := by
    intro v3 s0 s1 s2 M
    unfold F_Model_goesOn_J153
    refine zk_cvm (pc := 153) (k' := 0) (n' := 0) B rfl rfl (Nat.le_of_ble_eq_true rfl) (Nat.le_of_ble_eq_true rfl) (fun b hb => zr_V B hR kV_yX12_lays2 km_12_326 kx_12 (gModel_s ha) [.int s2, .int s1, .int s0] rfl rfl (Nat.le_of_ble_eq_true rfl) dX12_goesOn_153 (m_Model_lays2 hX ha s2 s1 s0 M b hb) ⟨Nat.le_of_ble_eq_true rfl, Nat.le_of_ble_eq_true rfl⟩ ⟨Nat.le_of_ble_eq_true rfl, Nat.le_of_ble_eq_true rfl⟩) (fun M4 => ?_)
    refine zk_iload_n (pc := 156) B dX12_goesOn_156 0 rfl rfl ?_
    exact zk_iret (pc := 157) B dX12_goesOn_157 rfl rfl (Nat.le_of_ble_eq_true rfl) (Nat.le_of_ble_eq_true rfl) rfl
  have J152 : ∀ (v3 : Int32) (s0 : Int32) (s1 : Int32) (M : z_Mem), z_K X F 7 0 0 G z_cim b 0 0 152 [(3, .int v3)] [.int s0, .int s1, .ref a] M (F_Model_goesOn_J152 a v3 s0 s1 M) := by
    intro v3 s0 s1 M
    unfold F_Model_goesOn_J152
    refine zk_iconst (v := (-1)) (pc := 152) B dX12_goesOn_152 (by decide) ?_
    exact J153 v3 (-1) s0 s1 M
  have J123 : ∀ (v1 : Int32) (v2 : Int32) (v3 : Int32) (M : z_Mem), z_K X F 7 0 0 G z_cim b 0 0 123 [(0, .ref a), (1, .int v1), (2, .int v2), (3, .int v3)] [] M (F_Model_goesOn_J123 a v1 v2 v3 M) := by
    intro v1 v2 v3 M
    unfold F_Model_goesOn_J123
    refine zk_aload_n (pc := 123) B dX12_goesOn_123 0 rfl rfl ?_
    refine zk_iload_n (pc := 124) B dX12_goesOn_124 1 rfl rfl ?_
    refine zk_iconst (v := 3) (pc := 125) B dX12_goesOn_125 (by decide) ?_
    refine zk_aload_n (pc := 126) B dX12_goesOn_126 0 rfl rfl ?_
    refine zk_geti (pc := 127) B kx_12 (gModel_s ha) 39 (by decide) kf_12_271 rfl dX12_goesOn_127 ?_
    refine zk_if_le (tgt := 152) (pc := 130) B dX12_goesOn_130 (by decide) (fun _ => ?_) (fun _ => ?_)
    · refine zk_sub [3] rfl ?_
      exact J152 v3 3 v1 M
    · refine zk_aload_n (pc := 133) B dX12_goesOn_133 0 rfl rfl ?_
      refine zk_getr (pc := 134) B kx_12 (gModel_s ha) 33 (by decide) kf_12_53 rfl (gModel_f33 ha) dX12_goesOn_134 ?_
      refine zk_iconst (v := 0) (pc := 137) B dX12_goesOn_137 (by decide) ?_
      refine zk_iald (pc := 138) B (gModel_t33 ha) dX12_goesOn_138 ?_
      refine zk_iload_n (pc := 139) B dX12_goesOn_139 2 rfl rfl ?_
      refine zk_icmp_ge (tgt := 152) (pc := 140) B dX12_goesOn_140 (by decide) (fun _ => ?_) (fun _ => ?_)
      · refine zk_sub [3] rfl ?_
        exact J152 v3 3 v1 M
      · refine zk_aload_n (pc := 143) B dX12_goesOn_143 0 rfl rfl ?_
        refine zk_getr (pc := 144) B kx_12 (gModel_s ha) 33 (by decide) kf_12_53 rfl (gModel_f33 ha) dX12_goesOn_144 ?_
        refine zk_iconst (v := 0) (pc := 147) B dX12_goesOn_147 (by decide) ?_
        refine zk_iald (pc := 148) B (gModel_t33 ha) dX12_goesOn_148 ?_
        refine zk_goto (tgt := 153) (pc := 149) B dX12_goesOn_149 (by decide) ?_
        refine zk_sub [3] rfl ?_
        exact J153 v3 (M.1 (a + 14) (0 : Int32).toNatClampNeg) 3 v1 M
  have L5 : ∀ (nf5 : Nat), ∀ (v1 : Int32) (v2 : Int32) (v3 : Int32) (v4 : Int32) (M : z_Mem), z_K X F 7 0 0 G z_cim b 0 0 5 [(0, .ref a), (1, .int v1), (2, .int v2), (3, .int v3), (4, .int v4)] [] M (F_Model_goesOn_L5 a nf5 v1 v2 v3 v4 M) := by
    intro nf5
    induction nf5 with
    | zero => intro v1 v2 v3 v4 M; exact zk_none
    | succ nf5 ih5 =>
      have L63 : ∀ (nf63 : Nat), ∀ (v1 : Int32) (v2 : Int32) (v3 : Int32) (v4 : Int32) (v6 : Int32) (M : z_Mem), z_K X F 7 0 0 G z_cim b 0 0 63 [(0, .ref a), (1, .int v1), (2, .int v2), (3, .int v3), (4, .int v4), (6, .int v6)] [] M (F_Model_goesOn_L63 a (F_Model_goesOn_L5 a nf5) nf63 v1 v2 v3 v4 v6 M) := by
        intro nf63
        induction nf63 with
        | zero => intro v1 v2 v3 v4 v6 M; exact zk_none
        | succ nf63 ih63 =>
          intro v1 v2 v3 v4 v6 M
          show z_K X F 7 0 0 G z_cim b 0 0 63 [(0, .ref a), (1, .int v1), (2, .int v2), (3, .int v3), (4, .int v4), (6, .int v6)] [] M (F_Model_goesOn_B63 a (F_Model_goesOn_L5 a nf5) (F_Model_goesOn_L63 a (F_Model_goesOn_L5 a nf5) nf63) v1 v2 v3 v4 v6 M)
          unfold F_Model_goesOn_B63
          refine zk_iload (pc := 63) B dX12_goesOn_63 5 rfl ?_
          refine zk_aload_n (pc := 65) B dX12_goesOn_65 0 rfl rfl ?_
          refine zk_geti (pc := 66) B kx_12 (gModel_s ha) 39 (by decide) kf_12_271 rfl dX12_goesOn_66 ?_
          refine zk_icmp_ge (tgt := 97) (pc := 69) B dX12_goesOn_69 (by decide) (fun _ => ?_) (fun _ => ?_)
          · refine zk_aload_n (pc := 97) B dX12_goesOn_97 0 rfl rfl ?_
            refine zk_iload_n (pc := 98) B dX12_goesOn_98 1 rfl rfl ?_
            refine zk_bipush (v := 11) (pc := 99) B dX12_goesOn_99 (by decide) ?_
            refine zk_aload_n (pc := 101) B dX12_goesOn_101 0 rfl rfl ?_
            refine zk_geti (pc := 102) B kx_12 (gModel_s ha) 39 (by decide) kf_12_271 rfl dX12_goesOn_102 ?_
            refine zk_iconst (v := 1) (pc := 105) B dX12_goesOn_105 (by decide) ?_
            refine zk_isub (pc := 106) B dX12_goesOn_106 ?_
            refine zk_cvm (pc := 107) (k' := 0) (n' := 0) B rfl rfl (Nat.le_of_ble_eq_true rfl) (Nat.le_of_ble_eq_true rfl) (fun b hb => zr_V B hR kV_yX12_lays2 km_12_326 kx_12 (gModel_s ha) [.int v1, .int 11, .int ((M.1 a 39) - 1)] rfl rfl (Nat.le_of_ble_eq_true rfl) dX12_goesOn_107 (m_Model_lays2 hX ha v1 11 ((M.1 a 39) - 1) M b hb) ⟨Nat.le_of_ble_eq_true rfl, Nat.le_of_ble_eq_true rfl⟩ ⟨Nat.le_of_ble_eq_true rfl, Nat.le_of_ble_eq_true rfl⟩) (fun M6 => ?_)
            refine zk_aload_n (pc := 110) B dX12_goesOn_110 0 rfl rfl ?_
            refine zk_iload_n (pc := 111) B dX12_goesOn_111 1 rfl rfl ?_
            refine zk_iconst (v := 3) (pc := 112) B dX12_goesOn_112 (by decide) ?_
            refine zk_iconst (v := (-1)) (pc := 113) B dX12_goesOn_113 (by decide) ?_
            refine zk_cvm (pc := 114) (k' := 0) (n' := 0) B rfl rfl (Nat.le_of_ble_eq_true rfl) (Nat.le_of_ble_eq_true rfl) (fun b hb => zr_V B hR kV_yX12_lays2 km_12_326 kx_12 (gModel_s ha) [.int v1, .int 3, .int (-1)] rfl rfl (Nat.le_of_ble_eq_true rfl) dX12_goesOn_114 (m_Model_lays2 hX ha v1 3 (-1) M6 b hb) ⟨Nat.le_of_ble_eq_true rfl, Nat.le_of_ble_eq_true rfl⟩ ⟨Nat.le_of_ble_eq_true rfl, Nat.le_of_ble_eq_true rfl⟩) (fun M7 => ?_)
            refine zk_iinc (y := 1) (lf := fun x8 => [(3, .int x8), (0, .ref a), (1, .int v1), (2, .int v2), (4, .int v4), (6, .int v6)]) (pc := 117) B dX12_goesOn_117 3 rfl (by decide) (by decide) (fun _ => rfl) (fun x8 => ?_)
            refine zk_goto (tgt := 5) (pc := 120) B dX12_goesOn_120 (by decide) ?_
            refine zk_sub [1, 2, 3, 0, 4] rfl ?_
            exact ih5 v1 v2 x8 v4 M7
          · refine zk_aload_n (pc := 72) B dX12_goesOn_72 0 rfl rfl ?_
            refine zk_iload_n (pc := 73) B dX12_goesOn_73 1 rfl rfl ?_
            refine zk_bipush (v := 12) (pc := 74) B dX12_goesOn_74 (by decide) ?_
            refine zk_iload (pc := 76) B dX12_goesOn_76 5 rfl ?_
            refine zk_iadd (pc := 78) B dX12_goesOn_78 ?_
            refine zk_iconst (v := 1) (pc := 79) B dX12_goesOn_79 (by decide) ?_
            refine zk_isub (pc := 80) B dX12_goesOn_80 ?_
            refine zk_aload_n (pc := 81) B dX12_goesOn_81 0 rfl rfl ?_
            refine zk_getr (pc := 82) B kx_12 (gModel_s ha) 32 (by decide) kf_12_50 rfl (gModel_f32 ha) dX12_goesOn_82 ?_
            refine zk_iload (pc := 85) B dX12_goesOn_85 5 rfl ?_
            refine zk_iald (pc := 87) B (gModel_t32 ha) dX12_goesOn_87 ?_
            refine zk_cvm (pc := 88) (k' := 0) (n' := 0) B rfl rfl (Nat.le_of_ble_eq_true rfl) (Nat.le_of_ble_eq_true rfl) (fun b hb => zr_V B hR kV_yX12_lays2 km_12_326 kx_12 (gModel_s ha) [.int v1, .int ((12 + v6) - 1), .int (M.1 (a + 13) v6.toNatClampNeg)] rfl rfl (Nat.le_of_ble_eq_true rfl) dX12_goesOn_88 (m_Model_lays2 hX ha v1 ((12 + v6) - 1) (M.1 (a + 13) v6.toNatClampNeg) M b hb) ⟨Nat.le_of_ble_eq_true rfl, Nat.le_of_ble_eq_true rfl⟩ ⟨Nat.le_of_ble_eq_true rfl, Nat.le_of_ble_eq_true rfl⟩) (fun M9 => ?_)
            refine zk_iinc (y := 1) (lf := fun x10 => [(6, .int x10), (0, .ref a), (1, .int v1), (2, .int v2), (3, .int v3), (4, .int v4)]) (pc := 91) B dX12_goesOn_91 5 rfl (by decide) (by decide) (fun _ => rfl) (fun x10 => ?_)
            refine zk_goto (tgt := 63) (pc := 94) B dX12_goesOn_94 (by decide) ?_
            refine zk_sub [1, 2, 3, 4, 5, 0] rfl ?_
            exact ih63 v1 v2 v3 v4 x10 M9
      have J44 : ∀ (v1 : Int32) (v2 : Int32) (v3 : Int32) (s0 : Int32) (M : z_Mem), z_K X F 7 0 0 G z_cim b 0 0 44 [(0, .ref a), (1, .int v1), (2, .int v2), (3, .int v3)] [.int s0] M (F_Model_goesOn_J44 a (F_Model_goesOn_L5 a nf5) v1 v2 v3 s0 M) := by
        intro v1 v2 v3 s0 M
        unfold F_Model_goesOn_J44
        refine zk_istore (loc' := [(4, .int s0), (0, .ref a), (1, .int v1), (2, .int v2), (3, .int v3)]) (pc := 44) B dX12_goesOn_44 (by decide) rfl ?_
        refine zk_iload (pc := 46) B dX12_goesOn_46 0 rfl ?_
        refine zk_if_ne (tgt := 54) (pc := 48) B dX12_goesOn_48 (by decide) (fun _ => ?_) (fun _ => ?_)
        · refine zk_aload_n (pc := 54) B dX12_goesOn_54 1 rfl rfl ?_
          refine zk_iload_n (pc := 55) B dX12_goesOn_55 2 rfl rfl ?_
          refine zk_iconst (v := 0) (pc := 56) B dX12_goesOn_56 (by decide) ?_
          refine zk_cvm (pc := 57) (k' := 0) (n' := 0) B rfl rfl (Nat.le_of_ble_eq_true rfl) (Nat.le_of_ble_eq_true rfl) (fun b hb => zr_V B hR kV_yX12_happens km_12_359 kx_12 (gModel_s ha) [.int v1, .int 0] rfl rfl (Nat.le_of_ble_eq_true rfl) dX12_goesOn_57 (m_Model_happens hX ha v1 0 M b hb) ⟨Nat.le_of_ble_eq_true rfl, Nat.le_of_ble_eq_true rfl⟩ ⟨Nat.le_of_ble_eq_true rfl, Nat.le_of_ble_eq_true rfl⟩) (fun M5 => ?_)
          refine zk_iconst (v := 1) (pc := 60) B dX12_goesOn_60 (by decide) ?_
          refine zk_istore (loc' := [(6, .int 1), (4, .int s0), (0, .ref a), (1, .int v1), (2, .int v2), (3, .int v3)]) (pc := 61) B dX12_goesOn_61 (by decide) rfl ?_
          refine zk_sub [2, 3, 4, 5, 1, 0] rfl ?_
          exact L63 10000 v1 v2 v3 s0 1 M5
        · refine zk_goto (tgt := 123) (pc := 51) B dX12_goesOn_51 (by decide) ?_
          refine zk_sub [1, 2, 3, 4] rfl ?_
          exact J123 v1 v2 v3 M
      have J43 : ∀ (v1 : Int32) (v2 : Int32) (v3 : Int32) (M : z_Mem), z_K X F 7 0 0 G z_cim b 0 0 43 [(0, .ref a), (1, .int v1), (2, .int v2), (3, .int v3)] [] M (F_Model_goesOn_J43 a (F_Model_goesOn_L5 a nf5) v1 v2 v3 M) := by
        intro v1 v2 v3 M
        unfold F_Model_goesOn_J43
        refine zk_iconst (v := 0) (pc := 43) B dX12_goesOn_43 (by decide) ?_
        exact J44 v1 v2 v3 0 M
      intro v1 v2 v3 v4 M
      show z_K X F 7 0 0 G z_cim b 0 0 5 [(0, .ref a), (1, .int v1), (2, .int v2), (3, .int v3), (4, .int v4)] [] M (F_Model_goesOn_B5 a (F_Model_goesOn_L5 a nf5) v1 v2 v3 v4 M)
      unfold F_Model_goesOn_B5
      refine zk_iload (pc := 5) B dX12_goesOn_5 4 rfl ?_
      refine zk_if_eq (tgt := 123) (pc := 7) B dX12_goesOn_7 (by decide) (fun _ => ?_) (fun _ => ?_)
      · refine zk_sub [0, 1, 2, 3] rfl ?_
        exact J123 v1 v2 v3 M
      · refine zk_aload_n (pc := 10) B dX12_goesOn_10 0 rfl rfl ?_
        refine zk_iload_n (pc := 11) B dX12_goesOn_11 1 rfl rfl ?_
        refine zk_cvm (pc := 12) (k' := 0) (n' := 0) B rfl rfl (Nat.le_of_ble_eq_true rfl) (Nat.le_of_ble_eq_true rfl) (fun b hb => zr_V B hR kV_yX12_lists km_12_301 kx_12 (gModel_s ha) [.int v1] rfl rfl (Nat.le_of_ble_eq_true rfl) dX12_goesOn_12 (m_Model_lists hX ha v1 M b hb) ⟨Nat.le_of_ble_eq_true rfl, Nat.le_of_ble_eq_true rfl⟩ ⟨Nat.le_of_ble_eq_true rfl, Nat.le_of_ble_eq_true rfl⟩) (fun M1 => ?_)
        refine zk_aload_n (pc := 15) B dX12_goesOn_15 0 rfl rfl ?_
        refine zk_iload_n (pc := 16) B dX12_goesOn_16 1 rfl rfl ?_
        refine zk_cim (pc := 17) (k' := 0) (n' := 0) B rfl rfl (Nat.le_of_ble_eq_true rfl) (Nat.le_of_ble_eq_true rfl) (fun b hb => zr_V B hR kV_yX12_plans km_12_311 kx_12 (gModel_s ha) [.int v1] rfl rfl (Nat.le_of_ble_eq_true rfl) dX12_goesOn_17 (m_Model_plans hX ha v1 M1 b hb) ⟨Nat.le_of_ble_eq_true rfl, Nat.le_of_ble_eq_true rfl⟩ ⟨Nat.le_of_ble_eq_true rfl, Nat.le_of_ble_eq_true rfl⟩) (fun x3 M2 => ?_)
        refine zk_istore (loc' := [(5, .int x3), (0, .ref a), (1, .int v1), (2, .int v2), (3, .int v3), (4, .int v4)]) (pc := 20) B dX12_goesOn_20 (by decide) rfl ?_
        refine zk_aload_n (pc := 22) B dX12_goesOn_22 1 rfl rfl ?_
        refine zk_geti (pc := 23) B kx_12 (gModel_s ha) 39 (by decide) kf_12_271 rfl dX12_goesOn_23 ?_
        refine zk_if_le (tgt := 43) (pc := 26) B dX12_goesOn_26 (by decide) (fun _ => ?_) (fun _ => ?_)
        · refine zk_sub [1, 2, 3, 4] rfl ?_
          exact J43 v1 v2 v3 M2
        · refine zk_aload_n (pc := 29) B dX12_goesOn_29 1 rfl rfl ?_
          refine zk_getr (pc := 30) B kx_12 (gModel_s ha) 35 (by decide) kf_12_59 rfl (gModel_f35 ha) dX12_goesOn_30 ?_
          refine zk_iconst (v := 0) (pc := 33) B dX12_goesOn_33 (by decide) ?_
          refine zk_iald (pc := 34) B (gModel_t35 ha) dX12_goesOn_34 ?_
          refine zk_iload_n (pc := 35) B dX12_goesOn_35 3 rfl rfl ?_
          refine zk_icmp_gt (tgt := 43) (pc := 36) B dX12_goesOn_36 (by decide) (fun _ => ?_) (fun _ => ?_)
          · refine zk_sub [1, 2, 3, 4] rfl ?_
            exact J43 v1 v2 v3 M2
          · refine zk_iconst (v := 1) (pc := 39) B dX12_goesOn_39 (by decide) ?_
            refine zk_goto (tgt := 44) (pc := 40) B dX12_goesOn_40 (by decide) ?_
            refine zk_sub [1, 2, 3, 4] rfl ?_
            exact J44 v1 v2 v3 1 M2
  show z_K X F 7 0 0 G z_cim b 0 0 0 [(0, .ref a), (1, .int p0), (2, .int p1)] [] M (F_Model_goesOn a p0 p1 M)
  unfold F_Model_goesOn
  refine zk_iconst (v := 0) (pc := 0) B dX12_goesOn_0 (by decide) ?_
  refine zk_istore_n (loc' := [(3, .int 0), (0, .ref a), (1, .int p0), (2, .int p1)]) (pc := 1) B dX12_goesOn_1 rfl (by decide) rfl ?_
  refine zk_iconst (v := 1) (pc := 2) B dX12_goesOn_2 (by decide) ?_
  refine zk_istore (loc' := [(4, .int 1), (3, .int 0), (0, .ref a), (1, .int p0), (2, .int p1)]) (pc := 3) B dX12_goesOn_3 (by decide) rfl ?_
  refine zk_sub [2, 3, 4, 1, 0] rfl ?_
  exact L5 10000 p0 p1 0 1 M
set_option maxHeartbeats 4000000 in
set_option maxRecDepth 100000 in
theorem m_Model_noZone {X : z_X} (hX : z_ok X) {G : z_Gr} {a : Nat} (ha : g_Model G a) (p0 : Int32) (M : z_Mem) (b : Int32 × z_Mem) (h : F_Model_noZone a p0 M = some b) : z_Ct X yX12_noZone cX12_noZone 2 (some .boolean) ({ frames := 1, cells := 0, slots := 0, locals := 25 } : Room) [.ref a, .int p0] G M (fun o9 G9 M9 => G9 = G ∧ (o9, M9) = z_cim b) := by
  refine z_enter hX (by decide) (Nat.le_of_ble_eq_true rfl) h (fun F B hR => ?_)
  show z_K X F 2 0 0 G z_cim b 0 0 0 [(0, .ref a), (1, .int p0)] [] M (F_Model_noZone a p0 M)
  unfold F_Model_noZone
  refine zk_aload_n (pc := 0) B dX12_noZone_0 0 rfl rfl ?_
  refine zk_iload_n (pc := 1) B dX12_noZone_1 1 rfl rfl ?_
  refine zk_i2l (pc := 2) B dX12_noZone_2 ?_
  refine zk_lconst (v := 0) (pc := 3) B dX12_noZone_3 (by decide) ?_
  refine zk_aload_n (pc := 4) B dX12_noZone_4 0 rfl rfl ?_
  refine zk_geti (pc := 5) B kx_12 (gModel_s ha) 15 (by decide) kf_12_108 rfl dX12_noZone_5 ?_
  refine zk_iconst (v := 1) (pc := 8) B dX12_noZone_8 (by decide) ?_
  refine zk_isub (pc := 9) B dX12_noZone_9 ?_
  refine zk_i2l (pc := 10) B dX12_noZone_10 ?_
  refine zk_cpi (pc := 11) (k' := 0) (n' := 0) B rfl rfl (Nat.le_of_ble_eq_true rfl) (Nat.le_of_ble_eq_true rfl) (fun b hb => zr_S B hR kS_yX12_in km_12_197 [.long p0.toInt64, .long 0, .long (((M.1 a 15) - 1).toInt64)] rfl rfl (Nat.le_of_ble_eq_true rfl) dX12_noZone_11 (m_Model_in hX p0.toInt64 0 (((M.1 a 15) - 1).toInt64) M b hb) ⟨Nat.le_of_ble_eq_true rfl, Nat.le_of_ble_eq_true rfl⟩ ⟨Nat.le_of_ble_eq_true rfl, Nat.le_of_ble_eq_true rfl⟩) (fun x1 _ => ?_)
  refine zk_iconst (v := 1) (pc := 14) B dX12_noZone_14 (by decide) ?_
  refine zk_cim (pc := 15) (k' := 0) (n' := 0) B rfl rfl (Nat.le_of_ble_eq_true rfl) (Nat.le_of_ble_eq_true rfl) (fun b hb => zr_V B hR kV_yX12_fails km_12_256 kx_12 (gModel_s ha) [.int x1, .int 1] rfl rfl (Nat.le_of_ble_eq_true rfl) dX12_noZone_15 (m_Model_fails hX ha x1 1 M b hb) ⟨Nat.le_of_ble_eq_true rfl, Nat.le_of_ble_eq_true rfl⟩ ⟨Nat.le_of_ble_eq_true rfl, Nat.le_of_ble_eq_true rfl⟩) (fun x3 M2 => ?_)
  exact zk_chk (fun h4 => zk_iret (pc := 18) B dX12_noZone_18 rfl (z_n01 h4) (Nat.le_of_ble_eq_true rfl) (Nat.le_of_ble_eq_true rfl) rfl)
set_option maxHeartbeats 4000000 in
set_option maxRecDepth 100000 in
theorem m_Model_noTaxi {X : z_X} (hX : z_ok X) {G : z_Gr} {a : Nat} (ha : g_Model G a) (p0 : Int32) (M : z_Mem) (b : Int32 × z_Mem) (h : F_Model_noTaxi a p0 M = some b) : z_Ct X yX12_noTaxi cX12_noTaxi 2 (some .boolean) ({ frames := 1, cells := 0, slots := 0, locals := 25 } : Room) [.ref a, .int p0] G M (fun o9 G9 M9 => G9 = G ∧ (o9, M9) = z_cim b) := by
  refine z_enter hX (by decide) (Nat.le_of_ble_eq_true rfl) h (fun F B hR => ?_)
  show z_K X F 2 0 0 G z_cim b 0 0 0 [(0, .ref a), (1, .int p0)] [] M (F_Model_noTaxi a p0 M)
  unfold F_Model_noTaxi
  refine zk_aload_n (pc := 0) B dX12_noTaxi_0 0 rfl rfl ?_
  refine zk_iload_n (pc := 1) B dX12_noTaxi_1 1 rfl rfl ?_
  refine zk_i2l (pc := 2) B dX12_noTaxi_2 ?_
  refine zk_lconst (v := 0) (pc := 3) B dX12_noTaxi_3 (by decide) ?_
  refine zk_aload_n (pc := 4) B dX12_noTaxi_4 0 rfl rfl ?_
  refine zk_geti (pc := 5) B kx_12 (gModel_s ha) 17 (by decide) kf_12_114 rfl dX12_noTaxi_5 ?_
  refine zk_iconst (v := 1) (pc := 8) B dX12_noTaxi_8 (by decide) ?_
  refine zk_isub (pc := 9) B dX12_noTaxi_9 ?_
  refine zk_i2l (pc := 10) B dX12_noTaxi_10 ?_
  refine zk_cpi (pc := 11) (k' := 0) (n' := 0) B rfl rfl (Nat.le_of_ble_eq_true rfl) (Nat.le_of_ble_eq_true rfl) (fun b hb => zr_S B hR kS_yX12_in km_12_197 [.long p0.toInt64, .long 0, .long (((M.1 a 17) - 1).toInt64)] rfl rfl (Nat.le_of_ble_eq_true rfl) dX12_noTaxi_11 (m_Model_in hX p0.toInt64 0 (((M.1 a 17) - 1).toInt64) M b hb) ⟨Nat.le_of_ble_eq_true rfl, Nat.le_of_ble_eq_true rfl⟩ ⟨Nat.le_of_ble_eq_true rfl, Nat.le_of_ble_eq_true rfl⟩) (fun x1 _ => ?_)
  refine zk_iconst (v := 1) (pc := 14) B dX12_noTaxi_14 (by decide) ?_
  refine zk_cim (pc := 15) (k' := 0) (n' := 0) B rfl rfl (Nat.le_of_ble_eq_true rfl) (Nat.le_of_ble_eq_true rfl) (fun b hb => zr_V B hR kV_yX12_fails km_12_256 kx_12 (gModel_s ha) [.int x1, .int 1] rfl rfl (Nat.le_of_ble_eq_true rfl) dX12_noTaxi_15 (m_Model_fails hX ha x1 1 M b hb) ⟨Nat.le_of_ble_eq_true rfl, Nat.le_of_ble_eq_true rfl⟩ ⟨Nat.le_of_ble_eq_true rfl, Nat.le_of_ble_eq_true rfl⟩) (fun x3 M2 => ?_)
  exact zk_chk (fun h4 => zk_iret (pc := 18) B dX12_noTaxi_18 rfl (z_n01 h4) (Nat.le_of_ble_eq_true rfl) (Nat.le_of_ble_eq_true rfl) rfl)
set_option maxHeartbeats 4000000 in
set_option maxRecDepth 100000 in
theorem m_Model_noRide {X : z_X} (hX : z_ok X) {G : z_Gr} {a : Nat} (ha : g_Model G a) (p0 : Int32) (M : z_Mem) (b : Int32 × z_Mem) (h : F_Model_noRide a p0 M = some b) : z_Ct X yX12_noRide cX12_noRide 2 (some .boolean) ({ frames := 1, cells := 0, slots := 0, locals := 25 } : Room) [.ref a, .int p0] G M (fun o9 G9 M9 => G9 = G ∧ (o9, M9) = z_cim b) := by
  refine z_enter hX (by decide) (Nat.le_of_ble_eq_true rfl) h (fun F B hR => ?_)
  show z_K X F 2 0 0 G z_cim b 0 0 0 [(0, .ref a), (1, .int p0)] [] M (F_Model_noRide a p0 M)
  unfold F_Model_noRide
  refine zk_aload_n (pc := 0) B dX12_noRide_0 0 rfl rfl ?_
  refine zk_iload_n (pc := 1) B dX12_noRide_1 1 rfl rfl ?_
  refine zk_i2l (pc := 2) B dX12_noRide_2 ?_
  refine zk_lconst (v := 0) (pc := 3) B dX12_noRide_3 (by decide) ?_
  refine zk_aload_n (pc := 4) B dX12_noRide_4 0 rfl rfl ?_
  refine zk_getr (pc := 5) B kx_12 (gModel_s ha) 1 (by decide) kf_12_7 rfl (gModel_f1 ha) dX12_noRide_5 ?_
  refine zk_iconst (v := 1) (pc := 8) B dX12_noRide_8 (by decide) ?_
  refine zk_iald (pc := 9) B (gModel_t1 ha) dX12_noRide_9 ?_
  refine zk_iconst (v := 1) (pc := 10) B dX12_noRide_10 (by decide) ?_
  refine zk_isub (pc := 11) B dX12_noRide_11 ?_
  refine zk_i2l (pc := 12) B dX12_noRide_12 ?_
  refine zk_cpi (pc := 13) (k' := 0) (n' := 0) B rfl rfl (Nat.le_of_ble_eq_true rfl) (Nat.le_of_ble_eq_true rfl) (fun b hb => zr_S B hR kS_yX12_in km_12_197 [.long p0.toInt64, .long 0, .long (((M.1 (a + 1) (1 : Int32).toNatClampNeg) - 1).toInt64)] rfl rfl (Nat.le_of_ble_eq_true rfl) dX12_noRide_13 (m_Model_in hX p0.toInt64 0 (((M.1 (a + 1) (1 : Int32).toNatClampNeg) - 1).toInt64) M b hb) ⟨Nat.le_of_ble_eq_true rfl, Nat.le_of_ble_eq_true rfl⟩ ⟨Nat.le_of_ble_eq_true rfl, Nat.le_of_ble_eq_true rfl⟩) (fun x1 _ => ?_)
  refine zk_iconst (v := 1) (pc := 16) B dX12_noRide_16 (by decide) ?_
  refine zk_cim (pc := 17) (k' := 0) (n' := 0) B rfl rfl (Nat.le_of_ble_eq_true rfl) (Nat.le_of_ble_eq_true rfl) (fun b hb => zr_V B hR kV_yX12_fails km_12_256 kx_12 (gModel_s ha) [.int x1, .int 1] rfl rfl (Nat.le_of_ble_eq_true rfl) dX12_noRide_17 (m_Model_fails hX ha x1 1 M b hb) ⟨Nat.le_of_ble_eq_true rfl, Nat.le_of_ble_eq_true rfl⟩ ⟨Nat.le_of_ble_eq_true rfl, Nat.le_of_ble_eq_true rfl⟩) (fun x3 M2 => ?_)
  exact zk_chk (fun h4 => zk_iret (pc := 20) B dX12_noRide_20 rfl (z_n01 h4) (Nat.le_of_ble_eq_true rfl) (Nat.le_of_ble_eq_true rfl) rfl)
set_option maxHeartbeats 4000000 in
set_option maxRecDepth 100000 in
theorem m_Model_ridesIn {X : z_X} (hX : z_ok X) {G : z_Gr} {a : Nat} (ha : g_Model G a) (p0 : Int32) (M : z_Mem) (b : Int32) (h : F_Model_ridesIn a p0 M = some b) : z_Ct X yX12_ridesIn cX12_ridesIn 4 (some .int) ({ frames := 1, cells := 0, slots := 0, locals := 22 } : Room) [.ref a, .int p0] G M (fun o9 G9 M9 => G9 = G ∧ (o9, M9) = (z_ci M) b) := by
  refine z_enter hX (by decide) (Nat.le_of_ble_eq_true rfl) h (fun F B hR => ?_)
  have L4 : ∀ (nf4 : Nat), ∀ (v1 : Int32) (v2 : Int32) (v3 : Int32), z_K X F 4 0 0 G (z_ci M) b 0 0 4 [(0, .ref a), (1, .int v1), (2, .int v2), (3, .int v3)] [] M (F_Model_ridesIn_L4 a nf4 v1 v2 v3 M) := by
    intro nf4
    induction nf4 with
    | zero => intro v1 v2 v3; exact zk_none
    | succ nf4 ih4 =>
      have J30 : ∀ (v1 : Int32) (v3 : Int32) (s0 : Int32) (s1 : Int32), z_K X F 4 0 0 G (z_ci M) b 0 0 30 [(0, .ref a), (1, .int v1), (3, .int v3)] [.int s0, .int s1] M (F_Model_ridesIn_J30 a (F_Model_ridesIn_L4 a nf4) v1 v3 s0 s1 M) := by
        intro v1 v3 s0 s1
        unfold F_Model_ridesIn_J30
        refine zk_iadd (pc := 30) B dX12_ridesIn_30 ?_
        refine zk_li (fun x2 => ?_)
        refine zk_istore_n (loc' := [(2, .int x2), (0, .ref a), (1, .int v1), (3, .int v3)]) (pc := 31) B dX12_ridesIn_31 rfl (by decide) rfl ?_
        refine zk_iinc (y := 1) (lf := fun x3 => [(3, .int x3), (2, .int x2), (0, .ref a), (1, .int v1)]) (pc := 32) B dX12_ridesIn_32 3 rfl (by decide) (by decide) (fun _ => rfl) (fun x3 => ?_)
        refine zk_goto (tgt := 4) (pc := 35) B dX12_ridesIn_35 (by decide) ?_
        refine zk_sub [2, 3, 1, 0] rfl ?_
        exact ih4 v1 x2 x3
      intro v1 v2 v3
      show z_K X F 4 0 0 G (z_ci M) b 0 0 4 [(0, .ref a), (1, .int v1), (2, .int v2), (3, .int v3)] [] M (F_Model_ridesIn_B4 a (F_Model_ridesIn_L4 a nf4) v1 v2 v3 M)
      unfold F_Model_ridesIn_B4
      refine zk_iload_n (pc := 4) B dX12_ridesIn_4 3 rfl rfl ?_
      refine zk_aload_n (pc := 5) B dX12_ridesIn_5 0 rfl rfl ?_
      refine zk_getr (pc := 6) B kx_12 (gModel_s ha) 1 (by decide) kf_12_7 rfl (gModel_f1 ha) dX12_ridesIn_6 ?_
      refine zk_iconst (v := 1) (pc := 9) B dX12_ridesIn_9 (by decide) ?_
      refine zk_iald (pc := 10) B (gModel_t1 ha) dX12_ridesIn_10 ?_
      refine zk_icmp_ge (tgt := 38) (pc := 11) B dX12_ridesIn_11 (by decide) (fun _ => ?_) (fun _ => ?_)
      · refine zk_iload_n (pc := 38) B dX12_ridesIn_38 2 rfl rfl ?_
        exact zk_iret (pc := 39) B dX12_ridesIn_39 rfl rfl (Nat.le_of_ble_eq_true rfl) (Nat.le_of_ble_eq_true rfl) rfl
      · refine zk_iload_n (pc := 14) B dX12_ridesIn_14 2 rfl rfl ?_
        refine zk_aload_n (pc := 15) B dX12_ridesIn_15 0 rfl rfl ?_
        refine zk_iload_n (pc := 16) B dX12_ridesIn_16 3 rfl rfl ?_
        refine zk_iconst (v := 0) (pc := 17) B dX12_ridesIn_17 (by decide) ?_
        refine zk_cpi (pc := 18) (k' := 0) (n' := 0) B rfl rfl (Nat.le_of_ble_eq_true rfl) (Nat.le_of_ble_eq_true rfl) (fun b hb => zr_V B hR kV_yX12_of km_12_274 kx_12 (gModel_s ha) [.int v3, .int 0] rfl rfl (Nat.le_of_ble_eq_true rfl) dX12_ridesIn_18 (m_Model_of hX ha v3 0 M b hb) ⟨Nat.le_of_ble_eq_true rfl, Nat.le_of_ble_eq_true rfl⟩ ⟨Nat.le_of_ble_eq_true rfl, Nat.le_of_ble_eq_true rfl⟩) (fun x1 _ => ?_)
        refine zk_iload_n (pc := 21) B dX12_ridesIn_21 1 rfl rfl ?_
        refine zk_icmp_ne (tgt := 29) (pc := 22) B dX12_ridesIn_22 (by decide) (fun _ => ?_) (fun _ => ?_)
        · refine zk_iconst (v := 0) (pc := 29) B dX12_ridesIn_29 (by decide) ?_
          refine zk_sub [0, 1, 3] rfl ?_
          exact J30 v1 v3 0 v2
        · refine zk_iconst (v := 1) (pc := 25) B dX12_ridesIn_25 (by decide) ?_
          refine zk_goto (tgt := 30) (pc := 26) B dX12_ridesIn_26 (by decide) ?_
          refine zk_sub [0, 1, 3] rfl ?_
          exact J30 v1 v3 1 v2
  show z_K X F 4 0 0 G (z_ci M) b 0 0 0 [(0, .ref a), (1, .int p0)] [] M (F_Model_ridesIn a p0 M)
  unfold F_Model_ridesIn
  refine zk_iconst (v := 0) (pc := 0) B dX12_ridesIn_0 (by decide) ?_
  refine zk_istore_n (loc' := [(2, .int 0), (0, .ref a), (1, .int p0)]) (pc := 1) B dX12_ridesIn_1 rfl (by decide) rfl ?_
  refine zk_iconst (v := 0) (pc := 2) B dX12_ridesIn_2 (by decide) ?_
  refine zk_istore_n (loc' := [(3, .int 0), (2, .int 0), (0, .ref a), (1, .int p0)]) (pc := 3) B dX12_ridesIn_3 rfl (by decide) rfl ?_
  refine zk_sub [2, 3, 1, 0] rfl ?_
  exact L4 10000 p0 0 0
set_option maxHeartbeats 4000000 in
set_option maxRecDepth 100000 in
theorem m_Model_sumOf {X : z_X} (hX : z_ok X) {G : z_Gr} {a : Nat} (ha : g_Model G a) (p0 : Int32) (M : z_Mem) (b : Int32) (h : F_Model_sumOf a p0 M = some b) : z_Ct X yX12_sumOf cX12_sumOf 4 (some .int) ({ frames := 1, cells := 0, slots := 0, locals := 22 } : Room) [.ref a, .int p0] G M (fun o9 G9 M9 => G9 = G ∧ (o9, M9) = (z_ci M) b) := by
  refine z_enter hX (by decide) (Nat.le_of_ble_eq_true rfl) h (fun F B hR => ?_)
  have L4 : ∀ (nf4 : Nat), ∀ (v1 : Int32) (v2 : Int32) (v3 : Int32), z_K X F 4 0 0 G (z_ci M) b 0 0 4 [(0, .ref a), (1, .int v1), (2, .int v2), (3, .int v3)] [] M (F_Model_sumOf_L4 a nf4 v1 v2 v3 M) := by
    intro nf4
    induction nf4 with
    | zero => intro v1 v2 v3; exact zk_none
    | succ nf4 ih4 =>
      intro v1 v2 v3
      show z_K X F 4 0 0 G (z_ci M) b 0 0 4 [(0, .ref a), (1, .int v1), (2, .int v2), (3, .int v3)] [] M (F_Model_sumOf_B4 a (F_Model_sumOf_L4 a nf4) v1 v2 v3 M)
      unfold F_Model_sumOf_B4
      refine zk_iload_n (pc := 4) B dX12_sumOf_4 3 rfl rfl ?_
      refine zk_aload_n (pc := 5) B dX12_sumOf_5 0 rfl rfl ?_
      refine zk_geti (pc := 6) B kx_12 (gModel_s ha) 17 (by decide) kf_12_114 rfl dX12_sumOf_6 ?_
      refine zk_icmp_ge (tgt := 27) (pc := 9) B dX12_sumOf_9 (by decide) (fun _ => ?_) (fun _ => ?_)
      · refine zk_iload_n (pc := 27) B dX12_sumOf_27 2 rfl rfl ?_
        exact zk_iret (pc := 28) B dX12_sumOf_28 rfl rfl (Nat.le_of_ble_eq_true rfl) (Nat.le_of_ble_eq_true rfl) rfl
      · refine zk_iload_n (pc := 12) B dX12_sumOf_12 2 rfl rfl ?_
        refine zk_aload_n (pc := 13) B dX12_sumOf_13 0 rfl rfl ?_
        refine zk_iload_n (pc := 14) B dX12_sumOf_14 3 rfl rfl ?_
        refine zk_iload_n (pc := 15) B dX12_sumOf_15 1 rfl rfl ?_
        refine zk_cpi (pc := 16) (k' := 0) (n' := 0) B rfl rfl (Nat.le_of_ble_eq_true rfl) (Nat.le_of_ble_eq_true rfl) (fun b hb => zr_V B hR kV_yX12_in2 km_12_268 kx_12 (gModel_s ha) [.int v3, .int v1] rfl rfl (Nat.le_of_ble_eq_true rfl) dX12_sumOf_16 (m_Model_in2 hX ha v3 v1 M b hb) ⟨Nat.le_of_ble_eq_true rfl, Nat.le_of_ble_eq_true rfl⟩ ⟨Nat.le_of_ble_eq_true rfl, Nat.le_of_ble_eq_true rfl⟩) (fun x1 _ => ?_)
        refine zk_iadd (pc := 19) B dX12_sumOf_19 ?_
        refine zk_li (fun x2 => ?_)
        refine zk_istore_n (loc' := [(2, .int x2), (0, .ref a), (1, .int v1), (3, .int v3)]) (pc := 20) B dX12_sumOf_20 rfl (by decide) rfl ?_
        refine zk_iinc (y := 1) (lf := fun x3 => [(3, .int x3), (2, .int x2), (0, .ref a), (1, .int v1)]) (pc := 21) B dX12_sumOf_21 3 rfl (by decide) (by decide) (fun _ => rfl) (fun x3 => ?_)
        refine zk_goto (tgt := 4) (pc := 24) B dX12_sumOf_24 (by decide) ?_
        refine zk_sub [2, 3, 1, 0] rfl ?_
        exact ih4 v1 x2 x3
  show z_K X F 4 0 0 G (z_ci M) b 0 0 0 [(0, .ref a), (1, .int p0)] [] M (F_Model_sumOf a p0 M)
  unfold F_Model_sumOf
  refine zk_iconst (v := 0) (pc := 0) B dX12_sumOf_0 (by decide) ?_
  refine zk_istore_n (loc' := [(2, .int 0), (0, .ref a), (1, .int p0)]) (pc := 1) B dX12_sumOf_1 rfl (by decide) rfl ?_
  refine zk_iconst (v := 0) (pc := 2) B dX12_sumOf_2 (by decide) ?_
  refine zk_istore_n (loc' := [(3, .int 0), (2, .int 0), (0, .ref a), (1, .int p0)]) (pc := 3) B dX12_sumOf_3 rfl (by decide) rfl ?_
  refine zk_sub [2, 3, 1, 0] rfl ?_
  exact L4 10000 p0 0 0
