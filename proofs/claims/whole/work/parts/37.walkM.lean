/-! ===== walks of the reference (by program) ===== -/
set_option maxHeartbeats 4000000 in
set_option maxRecDepth 100000 in
theorem m_Model_query {X : z_X} (hX : z_ok X) {G : z_Gr} {a : Nat} (ha : g_Model G a) (p0 : Int32) (M : z_Mem) (b : Int32 × z_Mem) (h : F_Model_query a p0 M = some b) : z_Ct X yX12_query cX12_query 5 (some .int) ({ frames := 7, cells := 0, slots := 0, locals := 148 } : Room) [.ref a, .int p0] G M (fun o9 G9 M9 => G9 = G ∧ (o9, M9) = z_cim b) := by
  refine z_enter hX (by decide) (Nat.le_of_ble_eq_true rfl) h (fun F B hR => ?_)
  have L90 : ∀ (nf90 : Nat), ∀ (v2 : Int32) (v3 : Int32) (v4 : Int32) (M : z_Mem), z_K X F 5 0 0 G z_cim b 0 0 90 [(0, .ref a), (2, .int v2), (3, .int v3), (4, .int v4)] [] M (F_Model_query_L90 a nf90 v2 v3 v4 M) := by
    intro nf90
    induction nf90 with
    | zero => intro v2 v3 v4 M; exact zk_none
    | succ nf90 ih90 =>
      intro v2 v3 v4 M
      show z_K X F 5 0 0 G z_cim b 0 0 90 [(0, .ref a), (2, .int v2), (3, .int v3), (4, .int v4)] [] M (F_Model_query_B90 a (F_Model_query_L90 a nf90) v2 v3 v4 M)
      unfold F_Model_query_B90
      refine zk_iload (pc := 90) B dX12_query_90 3 rfl ?_
      refine zk_aload_n (pc := 92) B dX12_query_92 0 rfl rfl ?_
      refine zk_getr (pc := 93) B kx_12 (gModel_s ha) 1 (by decide) kf_12_7 rfl (gModel_f1 ha) dX12_query_93 ?_
      refine zk_iconst (v := 1) (pc := 96) B dX12_query_96 (by decide) ?_
      refine zk_iald (pc := 97) B (gModel_t1 ha) dX12_query_97 ?_
      refine zk_icmp_ge (tgt := 129) (pc := 98) B dX12_query_98 (by decide) (fun _ => ?_) (fun _ => ?_)
      · refine zk_iload_n (pc := 129) B dX12_query_129 1 rfl rfl ?_
        refine zk_if_eq (tgt := 137) (pc := 130) B dX12_query_130 (by decide) (fun _ => ?_) (fun _ => ?_)
        · refine zk_iload_n (pc := 137) B dX12_query_137 2 rfl rfl ?_
          exact zk_iret (pc := 138) B dX12_query_138 rfl rfl (Nat.le_of_ble_eq_true rfl) (Nat.le_of_ble_eq_true rfl) rfl
        · refine zk_iconst (v := (-1)) (pc := 133) B dX12_query_133 (by decide) ?_
          refine zk_goto (tgt := 138) (pc := 134) B dX12_query_134 (by decide) ?_
          exact zk_iret (pc := 138) B dX12_query_138 rfl rfl (Nat.le_of_ble_eq_true rfl) (Nat.le_of_ble_eq_true rfl) rfl
      · refine zk_aload_n (pc := 101) B dX12_query_101 0 rfl rfl ?_
        refine zk_iload (pc := 102) B dX12_query_102 3 rfl ?_
        refine zk_cim (pc := 104) (k' := 0) (n' := 0) B rfl rfl (Nat.le_of_ble_eq_true rfl) (Nat.le_of_ble_eq_true rfl) (fun b hb => zr_V B hR kV_yX12_holds km_12_510 kx_12 (gModel_s ha) [.int v4] rfl rfl (Nat.le_of_ble_eq_true rfl) dX12_query_104 (m_Model_holds hX ha v4 M b hb) ⟨Nat.le_of_ble_eq_true rfl, Nat.le_of_ble_eq_true rfl⟩ ⟨Nat.le_of_ble_eq_true rfl, Nat.le_of_ble_eq_true rfl⟩) (fun x16 M15 => ?_)
        refine zk_if_ne (tgt := 113) (pc := 107) B dX12_query_107 (by decide) (fun _ => ?_) (fun _ => ?_)
        · refine zk_iload_n (pc := 113) B dX12_query_113 1 rfl rfl ?_
          refine zk_if_eq (tgt := 120) (pc := 114) B dX12_query_114 (by decide) (fun _ => ?_) (fun _ => ?_)
          · refine zk_iinc (y := 1) (lf := fun x17 => [(3, .int x17), (0, .ref a), (2, .int v2), (4, .int v4)]) (pc := 120) B dX12_query_120 2 rfl (by decide) (by decide) (fun _ => rfl) (fun x17 => ?_)
            refine zk_iinc (y := 1) (lf := fun x18 => [(4, .int x18), (3, .int x17), (0, .ref a), (2, .int v2)]) (pc := 123) B dX12_query_123 3 rfl (by decide) (by decide) (fun _ => rfl) (fun x18 => ?_)
            refine zk_goto (tgt := 90) (pc := 126) B dX12_query_126 (by decide) ?_
            refine zk_sub [2, 3, 1, 0] rfl ?_
            exact ih90 v2 x17 x18 M15
          · refine zk_iload (pc := 117) B dX12_query_117 3 rfl ?_
            exact zk_iret (pc := 119) B dX12_query_119 rfl rfl (Nat.le_of_ble_eq_true rfl) (Nat.le_of_ble_eq_true rfl) rfl
        · refine zk_goto (tgt := 123) (pc := 110) B dX12_query_110 (by decide) ?_
          refine zk_iinc (y := 1) (lf := fun x19 => [(4, .int x19), (0, .ref a), (2, .int v2), (3, .int v3)]) (pc := 123) B dX12_query_123 3 rfl (by decide) (by decide) (fun _ => rfl) (fun x19 => ?_)
          refine zk_goto (tgt := 90) (pc := 126) B dX12_query_126 (by decide) ?_
          refine zk_sub [1, 2, 3, 0] rfl ?_
          exact ih90 v2 v3 x19 M15
  have J65 : ∀ (v2 : Int32) (M : z_Mem), z_K X F 5 0 0 G z_cim b 0 0 65 [(0, .ref a), (2, .int v2)] [] M (F_Model_query_J65 a v2 M) := by
    intro v2 M
    unfold F_Model_query_J65
    refine zk_aload_n (pc := 65) B dX12_query_65 0 rfl rfl ?_
    refine zk_cvm (pc := 66) (k' := 0) (n' := 0) B rfl rfl (Nat.le_of_ble_eq_true rfl) (Nat.le_of_ble_eq_true rfl) (fun b hb => zr_V B hR kV_yX12_reads km_12_506 kx_12 (gModel_s ha) [] rfl rfl (Nat.le_of_ble_eq_true rfl) dX12_query_66 (m_Model_reads hX ha M b hb) ⟨Nat.le_of_ble_eq_true rfl, Nat.le_of_ble_eq_true rfl⟩ ⟨Nat.le_of_ble_eq_true rfl, Nat.le_of_ble_eq_true rfl⟩) (fun M13 => ?_)
    refine zk_aload_n (pc := 69) B dX12_query_69 0 rfl rfl ?_
    refine zk_cpi (pc := 70) (k' := 0) (n' := 0) B rfl rfl (Nat.le_of_ble_eq_true rfl) (Nat.le_of_ble_eq_true rfl) (fun b hb => zr_V B hR kV_yX12_isGood km_12_183 kx_12 (gModel_s ha) [] rfl rfl (Nat.le_of_ble_eq_true rfl) dX12_query_70 (m_Model_isGood hX ha M13 b hb) ⟨Nat.le_of_ble_eq_true rfl, Nat.le_of_ble_eq_true rfl⟩ ⟨Nat.le_of_ble_eq_true rfl, Nat.le_of_ble_eq_true rfl⟩) (fun x14 _ => ?_)
    refine zk_if_ne (tgt := 85) (pc := 73) B dX12_query_73 (by decide) (fun _ => ?_) (fun _ => ?_)
    · refine zk_iconst (v := 0) (pc := 85) B dX12_query_85 (by decide) ?_
      refine zk_istore_n (loc' := [(3, .int 0), (0, .ref a), (2, .int v2)]) (pc := 86) B dX12_query_86 rfl (by decide) rfl ?_
      refine zk_iconst (v := 0) (pc := 87) B dX12_query_87 (by decide) ?_
      refine zk_istore (loc' := [(4, .int 0), (3, .int 0), (0, .ref a), (2, .int v2)]) (pc := 88) B dX12_query_88 (by decide) rfl ?_
      refine zk_sub [2, 3, 1, 0] rfl ?_
      exact L90 10000 v2 0 0 M13
    · refine zk_ldcw (pc := 76) B kc_12_509 dX12_query_76 ?_
      refine zk_aload_n (pc := 79) B dX12_query_79 0 rfl rfl ?_
      refine zk_geti (pc := 80) B kx_12 (gModel_s ha) 30 (by decide) kf_12_177 rfl dX12_query_80 ?_
      refine zk_isub (pc := 83) B dX12_query_83 ?_
      exact zk_iret (pc := 84) B dX12_query_84 rfl rfl (Nat.le_of_ble_eq_true rfl) (Nat.le_of_ble_eq_true rfl) rfl
  show z_K X F 5 0 0 G z_cim b 0 0 0 [(0, .ref a), (1, .int p0)] [] M (F_Model_query a p0 M)
  unfold F_Model_query
  refine zk_aload_n (pc := 0) B dX12_query_0 0 rfl rfl ?_
  refine zk_iconst (v := 0) (pc := 1) B dX12_query_1 (by decide) ?_
  refine zk_puti (pc := 2) B kx_12 (gModel_s ha) 0 (by decide) kf_12_93 rfl rfl rfl rfl dX12_query_2 ?_
  refine zk_lm (fun M1 => ?_)
  refine zk_aload_n (pc := 5) B dX12_query_5 0 rfl rfl ?_
  refine zk_iload_n (pc := 6) B dX12_query_6 1 rfl rfl ?_
  refine zk_i2l (pc := 7) B dX12_query_7 ?_
  refine zk_lconst (v := 0) (pc := 8) B dX12_query_8 (by decide) ?_
  refine zk_aload_n (pc := 9) B dX12_query_9 0 rfl rfl ?_
  refine zk_geti (pc := 10) B kx_12 (gModel_s ha) 23 (by decide) kf_12_130 rfl dX12_query_10 ?_
  refine zk_sipush (v := 200) (pc := 13) B dX12_query_13 (by decide) ?_
  refine zk_cpi (pc := 16) (k' := 0) (n' := 0) B rfl rfl (Nat.le_of_ble_eq_true rfl) (Nat.le_of_ble_eq_true rfl) (fun b hb => zr_S B hR kS_yX12_lesser km_12_330 [.int (M1.1 a 23), .int 200] rfl rfl (Nat.le_of_ble_eq_true rfl) dX12_query_16 (m_Model_lesser hX (M1.1 a 23) 200 M1 b hb) ⟨Nat.le_of_ble_eq_true rfl, Nat.le_of_ble_eq_true rfl⟩ ⟨Nat.le_of_ble_eq_true rfl, Nat.le_of_ble_eq_true rfl⟩) (fun x2 _ => ?_)
  refine zk_i2l (pc := 19) B dX12_query_19 ?_
  refine zk_cpi (pc := 20) (k' := 0) (n' := 0) B rfl rfl (Nat.le_of_ble_eq_true rfl) (Nat.le_of_ble_eq_true rfl) (fun b hb => zr_S B hR kS_yX12_in km_12_197 [.long p0.toInt64, .long 0, .long x2.toInt64] rfl rfl (Nat.le_of_ble_eq_true rfl) dX12_query_20 (m_Model_in hX p0.toInt64 0 x2.toInt64 M1 b hb) ⟨Nat.le_of_ble_eq_true rfl, Nat.le_of_ble_eq_true rfl⟩ ⟨Nat.le_of_ble_eq_true rfl, Nat.le_of_ble_eq_true rfl⟩) (fun x3 _ => ?_)
  refine zk_iconst (v := 1) (pc := 23) B dX12_query_23 (by decide) ?_
  refine zk_cim (pc := 24) (k' := 0) (n' := 0) B rfl rfl (Nat.le_of_ble_eq_true rfl) (Nat.le_of_ble_eq_true rfl) (fun b hb => zr_V B hR kV_yX12_fails km_12_256 kx_12 (gModel_s ha) [.int x3, .int 1] rfl rfl (Nat.le_of_ble_eq_true rfl) dX12_query_24 (m_Model_fails hX ha x3 1 M1 b hb) ⟨Nat.le_of_ble_eq_true rfl, Nat.le_of_ble_eq_true rfl⟩ ⟨Nat.le_of_ble_eq_true rfl, Nat.le_of_ble_eq_true rfl⟩) (fun x5 M4 => ?_)
  refine zk_if_eq (tgt := 32) (pc := 27) B dX12_query_27 (by decide) (fun _ => ?_) (fun _ => ?_)
  · refine zk_aload_n (pc := 32) B dX12_query_32 0 rfl rfl ?_
    refine zk_iload_n (pc := 33) B dX12_query_33 1 rfl rfl ?_
    refine zk_cvm (pc := 34) (k' := 0) (n' := 0) B rfl rfl (Nat.le_of_ble_eq_true rfl) (Nat.le_of_ble_eq_true rfl) (fun b hb => zr_V B hR kV_yX12_starts km_12_260 kx_12 (gModel_s ha) [.int p0] rfl rfl (Nat.le_of_ble_eq_true rfl) dX12_query_34 (m_Model_starts hX ha p0 M4 b hb) ⟨Nat.le_of_ble_eq_true rfl, Nat.le_of_ble_eq_true rfl⟩ ⟨Nat.le_of_ble_eq_true rfl, Nat.le_of_ble_eq_true rfl⟩) (fun M6 => ?_)
    refine zk_aload_n (pc := 37) B dX12_query_37 0 rfl rfl ?_
    refine zk_ldc2 (pc := 38) B kl_12_502 dX12_query_38 ?_
    refine zk_cim (pc := 41) (k' := 0) (n' := 0) B rfl rfl (Nat.le_of_ble_eq_true rfl) (Nat.le_of_ble_eq_true rfl) (fun b hb => zr_V B hR kV_yX12_passes km_12_233 kx_12 (gModel_s ha) [.long 3379448] rfl rfl (Nat.le_of_ble_eq_true rfl) dX12_query_41 (m_Model_passes hX ha 3379448 M6 b hb) ⟨Nat.le_of_ble_eq_true rfl, Nat.le_of_ble_eq_true rfl⟩ ⟨Nat.le_of_ble_eq_true rfl, Nat.le_of_ble_eq_true rfl⟩) (fun x8 M7 => ?_)
    refine zk_istore_n (loc' := [(2, .int x8), (0, .ref a), (1, .int p0)]) (pc := 44) B dX12_query_44 rfl (by decide) rfl ?_
    refine zk_iload_n (pc := 45) B dX12_query_45 0 rfl rfl ?_
    refine zk_if_ne (tgt := 65) (pc := 46) B dX12_query_46 (by decide) (fun _ => ?_) (fun _ => ?_)
    · refine zk_sub [1, 0] rfl ?_
      exact J65 x8 M7
    · refine zk_aload_n (pc := 49) B dX12_query_49 1 rfl rfl ?_
      refine zk_ldc2 (pc := 50) B kl_12_504 dX12_query_50 ?_
      refine zk_cim (pc := 53) (k' := 0) (n' := 0) B rfl rfl (Nat.le_of_ble_eq_true rfl) (Nat.le_of_ble_eq_true rfl) (fun b hb => zr_V B hR kV_yX12_passes km_12_233 kx_12 (gModel_s ha) [.long 257011] rfl rfl (Nat.le_of_ble_eq_true rfl) dX12_query_53 (m_Model_passes hX ha 257011 M7 b hb) ⟨Nat.le_of_ble_eq_true rfl, Nat.le_of_ble_eq_true rfl⟩ ⟨Nat.le_of_ble_eq_true rfl, Nat.le_of_ble_eq_true rfl⟩) (fun x10 M9 => ?_)
      refine zk_if_ne (tgt := 65) (pc := 56) B dX12_query_56 (by decide) (fun _ => ?_) (fun _ => ?_)
      · refine zk_sub [1, 0] rfl ?_
        exact J65 x8 M9
      · refine zk_aload_n (pc := 59) B dX12_query_59 1 rfl rfl ?_
        refine zk_iconst (v := 1) (pc := 60) B dX12_query_60 (by decide) ?_
        refine zk_cim (pc := 61) (k' := 0) (n' := 0) B rfl rfl (Nat.le_of_ble_eq_true rfl) (Nat.le_of_ble_eq_true rfl) (fun b hb => zr_V B hR kV_yX12_wrongs km_12_194 kx_12 (gModel_s ha) [.int 1] rfl rfl (Nat.le_of_ble_eq_true rfl) dX12_query_61 (m_Model_wrongs hX ha 1 M9 b hb) ⟨Nat.le_of_ble_eq_true rfl, Nat.le_of_ble_eq_true rfl⟩ ⟨Nat.le_of_ble_eq_true rfl, Nat.le_of_ble_eq_true rfl⟩) (fun x12 M11 => ?_)
        refine zk_pop (pc := 64) B dX12_query_64 rfl ?_
        refine zk_sub [1, 0] rfl ?_
        exact J65 x8 M11
  · refine zk_iconst (v := 0) (pc := 30) B dX12_query_30 (by decide) ?_
    exact zk_iret (pc := 31) B dX12_query_31 rfl rfl (Nat.le_of_ble_eq_true rfl) (Nat.le_of_ble_eq_true rfl) rfl
