/-! ===== walks of the class (by program) ===== -/
set_option maxHeartbeats 4000000 in
set_option maxRecDepth 100000 in
theorem m_Plan_planRoute {X : z_X} (hX : z_ok X) {G : z_Gr} {o : Nat} (hG : g_Sys G o) {r0 : Nat} (hr0 : g_Taxi G r0) (M : z_Mem) (b : z_Mem) (h : F_Plan_planRoute o r0 M = some b) : z_Ct X yX3_planRoute cX3_planRoute 3 none ({ frames := 3, cells := 0, slots := 0, locals := 83 } : Room) [.ref (o + 487), .ref r0] G M (fun o9 G9 M9 => G9 = G ∧ (o9, M9) = z_cvm b) := by
  refine z_enter hX (by decide) (Nat.le_of_ble_eq_true rfl) h (fun F B hR => ?_)
  have L7 : ∀ (nf7 : Nat), ∀ (u1 : Nat) (hu1 : g_Taxi G u1) (v2 : Int32) (M : z_Mem), z_K X F 3 0 0 G z_cvm b 0 0 7 [(0, .ref (o + 487)), (1, .ref u1), (2, .int v2)] [] M (F_Plan_planRoute_L7 o nf7 u1 v2 M) := by
    intro nf7
    induction nf7 with
    | zero => intro u1 hu1 v2 M; exact zk_none
    | succ nf7 ih7 =>
      intro u1 hu1 v2 M
      show z_K X F 3 0 0 G z_cvm b 0 0 7 [(0, .ref (o + 487)), (1, .ref u1), (2, .int v2)] [] M (F_Plan_planRoute_B7 o (F_Plan_planRoute_L7 o nf7) u1 v2 M)
      unfold F_Plan_planRoute_B7
      refine zk_iload_n (pc := 7) B dX3_planRoute_7 2 rfl rfl ?_
      refine zk_aload_n (pc := 8) B dX3_planRoute_8 1 rfl rfl ?_
      refine zk_geti (pc := 9) B kx_6 (gTaxi_s hu1) 7 (by decide) kf_3_46 rfl dX3_planRoute_9 ?_
      refine zk_icmp_ge (tgt := 30) (pc := 12) B dX3_planRoute_12 (by decide) (fun _ => ?_) (fun _ => ?_)
      · refine zk_aload_n (pc := 30) B dX3_planRoute_30 0 rfl rfl ?_
        refine zk_aload_n (pc := 31) B dX3_planRoute_31 1 rfl rfl ?_
        refine zk_cvm (pc := 32) (k' := 0) (n' := 0) B rfl rfl (Nat.le_of_ble_eq_true rfl) (Nat.le_of_ble_eq_true rfl) (fun b hb => zr_V B hR kV_yX3_planTimes km_3_59 kx_3 (gPlan_s hG) [.ref u1] rfl rfl (Nat.le_of_ble_eq_true rfl) dX3_planRoute_32 (m_Plan_planTimes hX hG hu1 M b hb) ⟨Nat.le_of_ble_eq_true rfl, Nat.le_of_ble_eq_true rfl⟩ ⟨Nat.le_of_ble_eq_true rfl, Nat.le_of_ble_eq_true rfl⟩) (fun M2 => ?_)
        exact zk_vret (pc := 35) B dX3_planRoute_35 rfl (Nat.le_of_ble_eq_true rfl) (Nat.le_of_ble_eq_true rfl) rfl
      · refine zk_aload_n (pc := 15) B dX3_planRoute_15 0 rfl rfl ?_
        refine zk_aload_n (pc := 16) B dX3_planRoute_16 1 rfl rfl ?_
        refine zk_iload_n (pc := 17) B dX3_planRoute_17 2 rfl rfl ?_
        refine zk_cpi (pc := 18) (k' := 0) (n' := 0) B rfl rfl (Nat.le_of_ble_eq_true rfl) (Nat.le_of_ble_eq_true rfl) (fun b hb => zr_V B hR kV_yX6_stopAt km_3_51 kx_6 (gTaxi_s hu1) [.int v2] rfl rfl (Nat.le_of_ble_eq_true rfl) dX3_planRoute_18 (m_Taxi_stopAt hX hu1 v2 M b hb) ⟨Nat.le_of_ble_eq_true rfl, Nat.le_of_ble_eq_true rfl⟩ ⟨Nat.le_of_ble_eq_true rfl, Nat.le_of_ble_eq_true rfl⟩) (fun x3 _ => ?_)
        refine zk_cvm (pc := 21) (k' := 0) (n' := 0) B rfl rfl (Nat.le_of_ble_eq_true rfl) (Nat.le_of_ble_eq_true rfl) (fun b hb => zr_V B hR kV_yX3_append km_3_55 kx_3 (gPlan_s hG) [.int x3] rfl rfl (Nat.le_of_ble_eq_true rfl) dX3_planRoute_21 (m_Plan_append hX hG x3 M b hb) ⟨Nat.le_of_ble_eq_true rfl, Nat.le_of_ble_eq_true rfl⟩ ⟨Nat.le_of_ble_eq_true rfl, Nat.le_of_ble_eq_true rfl⟩) (fun M4 => ?_)
        refine zk_iinc (y := 1) (lf := fun x5 => [(2, .int x5), (0, .ref (o + 487)), (1, .ref u1)]) (pc := 24) B dX3_planRoute_24 2 rfl (by decide) (by decide) (fun _ => rfl) (fun x5 => ?_)
        refine zk_goto (tgt := 7) (pc := 27) B dX3_planRoute_27 (by decide) ?_
        refine zk_sub [1, 2, 0] rfl ?_
        exact ih7 u1 hu1 x5 M4
  show z_K X F 3 0 0 G z_cvm b 0 0 0 [(0, .ref (o + 487)), (1, .ref r0)] [] M (F_Plan_planRoute o r0 M)
  unfold F_Plan_planRoute
  refine zk_aload_n (pc := 0) B dX3_planRoute_0 0 rfl rfl ?_
  refine zk_iconst (v := 0) (pc := 1) B dX3_planRoute_1 (by decide) ?_
  refine zk_puti (pc := 2) B kx_3 (gPlan_s hG) 3 (by decide) kf_3_42 rfl rfl rfl rfl dX3_planRoute_2 ?_
  refine zk_lm (fun M1 => ?_)
  refine zk_iconst (v := 0) (pc := 5) B dX3_planRoute_5 (by decide) ?_
  refine zk_istore_n (loc' := [(2, .int 0), (0, .ref (o + 487)), (1, .ref r0)]) (pc := 6) B dX3_planRoute_6 rfl (by decide) rfl ?_
  refine zk_sub [1, 2, 0] rfl ?_
  exact L7 10000 r0 hr0 0 M1
set_option maxHeartbeats 4000000 in
set_option maxRecDepth 100000 in
theorem m_Plan_planInsertion {X : z_X} (hX : z_ok X) {G : z_Gr} {o : Nat} (hG : g_Sys G o) {r0 : Nat} (hr0 : g_Taxi G r0) (p1 : Int32) (p2 : Int32) (p3 : Int32) (M : z_Mem) (b : z_Mem) (h : F_Plan_planInsertion o r0 p1 p2 p3 M = some b) : z_Ct X yX3_planInsertion cX3_planInsertion 7 none ({ frames := 3, cells := 0, slots := 0, locals := 83 } : Room) [.ref (o + 487), .ref r0, .int p1, .int p2, .int p3] G M (fun o9 G9 M9 => G9 = G ∧ (o9, M9) = z_cvm b) := by
  refine z_enter hX (by decide) (Nat.le_of_ble_eq_true rfl) h (fun F B hR => ?_)
  have L11 : ∀ (nf11 : Nat), ∀ (u1 : Nat) (hu1 : g_Taxi G u1) (v2 : Int32) (v3 : Int32) (v4 : Int32) (v5 : Int32) (v6 : Int32) (M : z_Mem), z_K X F 7 0 0 G z_cvm b 0 0 11 [(0, .ref (o + 487)), (1, .ref u1), (2, .int v2), (3, .int v3), (4, .int v4), (5, .int v5), (6, .int v6)] [] M (F_Plan_planInsertion_L11 o nf11 u1 v2 v3 v4 v5 v6 M) := by
    intro nf11
    induction nf11 with
    | zero => intro u1 hu1 v2 v3 v4 v5 v6 M; exact zk_none
    | succ nf11 ih11 =>
      intro u1 hu1 v2 v3 v4 v5 v6 M
      show z_K X F 7 0 0 G z_cvm b 0 0 11 [(0, .ref (o + 487)), (1, .ref u1), (2, .int v2), (3, .int v3), (4, .int v4), (5, .int v5), (6, .int v6)] [] M (F_Plan_planInsertion_B11 o (F_Plan_planInsertion_L11 o nf11) u1 v2 v3 v4 v5 v6 M)
      unfold F_Plan_planInsertion_B11
      refine zk_iload (pc := 11) B dX3_planInsertion_11 6 rfl ?_
      refine zk_aload_n (pc := 13) B dX3_planInsertion_13 1 rfl rfl ?_
      refine zk_geti (pc := 14) B kx_6 (gTaxi_s hu1) 7 (by decide) kf_3_46 rfl dX3_planInsertion_14 ?_
      refine zk_iconst (v := 2) (pc := 17) B dX3_planInsertion_17 (by decide) ?_
      refine zk_iadd (pc := 18) B dX3_planInsertion_18 ?_
      refine zk_icmp_ge (tgt := 76) (pc := 19) B dX3_planInsertion_19 (by decide) (fun _ => ?_) (fun _ => ?_)
      · refine zk_aload_n (pc := 76) B dX3_planInsertion_76 0 rfl rfl ?_
        refine zk_aload_n (pc := 77) B dX3_planInsertion_77 1 rfl rfl ?_
        refine zk_cvm (pc := 78) (k' := 0) (n' := 0) B rfl rfl (Nat.le_of_ble_eq_true rfl) (Nat.le_of_ble_eq_true rfl) (fun b hb => zr_V B hR kV_yX3_planTimes km_3_59 kx_3 (gPlan_s hG) [.ref u1] rfl rfl (Nat.le_of_ble_eq_true rfl) dX3_planInsertion_78 (m_Plan_planTimes hX hG hu1 M b hb) ⟨Nat.le_of_ble_eq_true rfl, Nat.le_of_ble_eq_true rfl⟩ ⟨Nat.le_of_ble_eq_true rfl, Nat.le_of_ble_eq_true rfl⟩) (fun M2 => ?_)
        exact zk_vret (pc := 81) B dX3_planInsertion_81 rfl (Nat.le_of_ble_eq_true rfl) (Nat.le_of_ble_eq_true rfl) rfl
      · refine zk_iload (pc := 22) B dX3_planInsertion_22 6 rfl ?_
        refine zk_iload_n (pc := 24) B dX3_planInsertion_24 3 rfl rfl ?_
        refine zk_icmp_ne (tgt := 39) (pc := 25) B dX3_planInsertion_25 (by decide) (fun _ => ?_) (fun _ => ?_)
        · refine zk_iload (pc := 39) B dX3_planInsertion_39 6 rfl ?_
          refine zk_iload (pc := 41) B dX3_planInsertion_41 4 rfl ?_
          refine zk_icmp_ne (tgt := 57) (pc := 43) B dX3_planInsertion_43 (by decide) (fun _ => ?_) (fun _ => ?_)
          · refine zk_aload_n (pc := 57) B dX3_planInsertion_57 0 rfl rfl ?_
            refine zk_aload_n (pc := 58) B dX3_planInsertion_58 1 rfl rfl ?_
            refine zk_iload (pc := 59) B dX3_planInsertion_59 5 rfl ?_
            refine zk_cpi (pc := 61) (k' := 0) (n' := 0) B rfl rfl (Nat.le_of_ble_eq_true rfl) (Nat.le_of_ble_eq_true rfl) (fun b hb => zr_V B hR kV_yX6_stopAt km_3_51 kx_6 (gTaxi_s hu1) [.int v5] rfl rfl (Nat.le_of_ble_eq_true rfl) dX3_planInsertion_61 (m_Taxi_stopAt hX hu1 v5 M b hb) ⟨Nat.le_of_ble_eq_true rfl, Nat.le_of_ble_eq_true rfl⟩ ⟨Nat.le_of_ble_eq_true rfl, Nat.le_of_ble_eq_true rfl⟩) (fun x3 _ => ?_)
            refine zk_cvm (pc := 64) (k' := 0) (n' := 0) B rfl rfl (Nat.le_of_ble_eq_true rfl) (Nat.le_of_ble_eq_true rfl) (fun b hb => zr_V B hR kV_yX3_append km_3_55 kx_3 (gPlan_s hG) [.int x3] rfl rfl (Nat.le_of_ble_eq_true rfl) dX3_planInsertion_64 (m_Plan_append hX hG x3 M b hb) ⟨Nat.le_of_ble_eq_true rfl, Nat.le_of_ble_eq_true rfl⟩ ⟨Nat.le_of_ble_eq_true rfl, Nat.le_of_ble_eq_true rfl⟩) (fun M4 => ?_)
            refine zk_iinc (y := 1) (lf := fun x5 => [(5, .int x5), (0, .ref (o + 487)), (1, .ref u1), (2, .int v2), (3, .int v3), (4, .int v4), (6, .int v6)]) (pc := 67) B dX3_planInsertion_67 5 rfl (by decide) (by decide) (fun _ => rfl) (fun x5 => ?_)
            refine zk_iinc (y := 1) (lf := fun x6 => [(6, .int x6), (5, .int x5), (0, .ref (o + 487)), (1, .ref u1), (2, .int v2), (3, .int v3), (4, .int v4)]) (pc := 70) B dX3_planInsertion_70 6 rfl (by decide) (by decide) (fun _ => rfl) (fun x6 => ?_)
            refine zk_goto (tgt := 11) (pc := 73) B dX3_planInsertion_73 (by decide) ?_
            refine zk_sub [2, 3, 4, 5, 6, 1, 0] rfl ?_
            exact ih11 u1 hu1 v2 v3 v4 x5 x6 M4
          · refine zk_aload_n (pc := 46) B dX3_planInsertion_46 0 rfl rfl ?_
            refine zk_iload_n (pc := 47) B dX3_planInsertion_47 2 rfl rfl ?_
            refine zk_cpi (pc := 48) (k' := 0) (n' := 0) B rfl rfl (Nat.le_of_ble_eq_true rfl) (Nat.le_of_ble_eq_true rfl) (fun b hb => zr_S B hR kS_yX0_dropOf km_3_68 [.int v2] rfl rfl (Nat.le_of_ble_eq_true rfl) dX3_planInsertion_48 (m_Desk_dropOf hX v2 M b hb) ⟨Nat.le_of_ble_eq_true rfl, Nat.le_of_ble_eq_true rfl⟩ ⟨Nat.le_of_ble_eq_true rfl, Nat.le_of_ble_eq_true rfl⟩) (fun x7 _ => ?_)
            refine zk_cvm (pc := 51) (k' := 0) (n' := 0) B rfl rfl (Nat.le_of_ble_eq_true rfl) (Nat.le_of_ble_eq_true rfl) (fun b hb => zr_V B hR kV_yX3_append km_3_55 kx_3 (gPlan_s hG) [.int x7] rfl rfl (Nat.le_of_ble_eq_true rfl) dX3_planInsertion_51 (m_Plan_append hX hG x7 M b hb) ⟨Nat.le_of_ble_eq_true rfl, Nat.le_of_ble_eq_true rfl⟩ ⟨Nat.le_of_ble_eq_true rfl, Nat.le_of_ble_eq_true rfl⟩) (fun M8 => ?_)
            refine zk_goto (tgt := 70) (pc := 54) B dX3_planInsertion_54 (by decide) ?_
            refine zk_iinc (y := 1) (lf := fun x9 => [(6, .int x9), (0, .ref (o + 487)), (1, .ref u1), (2, .int v2), (3, .int v3), (4, .int v4), (5, .int v5)]) (pc := 70) B dX3_planInsertion_70 6 rfl (by decide) (by decide) (fun _ => rfl) (fun x9 => ?_)
            refine zk_goto (tgt := 11) (pc := 73) B dX3_planInsertion_73 (by decide) ?_
            refine zk_sub [1, 2, 3, 4, 5, 6, 0] rfl ?_
            exact ih11 u1 hu1 v2 v3 v4 v5 x9 M8
        · refine zk_aload_n (pc := 28) B dX3_planInsertion_28 0 rfl rfl ?_
          refine zk_iload_n (pc := 29) B dX3_planInsertion_29 2 rfl rfl ?_
          refine zk_cpi (pc := 30) (k' := 0) (n' := 0) B rfl rfl (Nat.le_of_ble_eq_true rfl) (Nat.le_of_ble_eq_true rfl) (fun b hb => zr_S B hR kS_yX0_pickupOf km_3_63 [.int v2] rfl rfl (Nat.le_of_ble_eq_true rfl) dX3_planInsertion_30 (m_Desk_pickupOf hX v2 M b hb) ⟨Nat.le_of_ble_eq_true rfl, Nat.le_of_ble_eq_true rfl⟩ ⟨Nat.le_of_ble_eq_true rfl, Nat.le_of_ble_eq_true rfl⟩) (fun x10 _ => ?_)
          refine zk_cvm (pc := 33) (k' := 0) (n' := 0) B rfl rfl (Nat.le_of_ble_eq_true rfl) (Nat.le_of_ble_eq_true rfl) (fun b hb => zr_V B hR kV_yX3_append km_3_55 kx_3 (gPlan_s hG) [.int x10] rfl rfl (Nat.le_of_ble_eq_true rfl) dX3_planInsertion_33 (m_Plan_append hX hG x10 M b hb) ⟨Nat.le_of_ble_eq_true rfl, Nat.le_of_ble_eq_true rfl⟩ ⟨Nat.le_of_ble_eq_true rfl, Nat.le_of_ble_eq_true rfl⟩) (fun M11 => ?_)
          refine zk_goto (tgt := 70) (pc := 36) B dX3_planInsertion_36 (by decide) ?_
          refine zk_iinc (y := 1) (lf := fun x12 => [(6, .int x12), (0, .ref (o + 487)), (1, .ref u1), (2, .int v2), (3, .int v3), (4, .int v4), (5, .int v5)]) (pc := 70) B dX3_planInsertion_70 6 rfl (by decide) (by decide) (fun _ => rfl) (fun x12 => ?_)
          refine zk_goto (tgt := 11) (pc := 73) B dX3_planInsertion_73 (by decide) ?_
          refine zk_sub [1, 2, 3, 4, 5, 6, 0] rfl ?_
          exact ih11 u1 hu1 v2 v3 v4 v5 x12 M11
  show z_K X F 7 0 0 G z_cvm b 0 0 0 [(0, .ref (o + 487)), (1, .ref r0), (2, .int p1), (3, .int p2), (4, .int p3)] [] M (F_Plan_planInsertion o r0 p1 p2 p3 M)
  unfold F_Plan_planInsertion
  refine zk_aload_n (pc := 0) B dX3_planInsertion_0 0 rfl rfl ?_
  refine zk_iconst (v := 0) (pc := 1) B dX3_planInsertion_1 (by decide) ?_
  refine zk_puti (pc := 2) B kx_3 (gPlan_s hG) 3 (by decide) kf_3_42 rfl rfl rfl rfl dX3_planInsertion_2 ?_
  refine zk_lm (fun M1 => ?_)
  refine zk_iconst (v := 0) (pc := 5) B dX3_planInsertion_5 (by decide) ?_
  refine zk_istore (loc' := [(5, .int 0), (0, .ref (o + 487)), (1, .ref r0), (2, .int p1), (3, .int p2), (4, .int p3)]) (pc := 6) B dX3_planInsertion_6 (by decide) rfl ?_
  refine zk_iconst (v := 0) (pc := 8) B dX3_planInsertion_8 (by decide) ?_
  refine zk_istore (loc' := [(6, .int 0), (5, .int 0), (0, .ref (o + 487)), (1, .ref r0), (2, .int p1), (3, .int p2), (4, .int p3)]) (pc := 9) B dX3_planInsertion_9 (by decide) rfl ?_
  refine zk_sub [2, 3, 4, 5, 6, 1, 0] rfl ?_
  exact L11 10000 r0 hr0 p1 p2 p3 0 0 M1
set_option maxHeartbeats 4000000 in
set_option maxRecDepth 100000 in
theorem m_Plan_arrivalAt {X : z_X} (hX : z_ok X) {G : z_Gr} {o : Nat} (hG : g_Sys G o) (p0 : Int32) (M : z_Mem) (b : Int32) (h : F_Plan_arrivalAt o p0 M = some b) : z_Ct X yX3_arrivalAt cX3_arrivalAt 2 (some .int) ({ frames := 1, cells := 0, slots := 0, locals := 21 } : Room) [.ref (o + 487), .int p0] G M (fun o9 G9 M9 => G9 = G ∧ (o9, M9) = (z_ci M) b) := by
  refine z_enter hX (by decide) (Nat.le_of_ble_eq_true rfl) h (fun F B hR => ?_)
  show z_K X F 2 0 0 G (z_ci M) b 0 0 0 [(0, .ref (o + 487)), (1, .int p0)] [] M (F_Plan_arrivalAt o p0 M)
  unfold F_Plan_arrivalAt
  refine zk_aload_n (pc := 0) B dX3_arrivalAt_0 0 rfl rfl ?_
  refine zk_iload_n (pc := 1) B dX3_arrivalAt_1 1 rfl rfl ?_
  refine zk_cpi (pc := 2) (k' := 0) (n' := 0) B rfl rfl (Nat.le_of_ble_eq_true rfl) (Nat.le_of_ble_eq_true rfl) (fun b hb => zr_V B hR kV_yX3_hasPlace km_3_38 kx_3 (gPlan_s hG) [.int p0] rfl rfl (Nat.le_of_ble_eq_true rfl) dX3_arrivalAt_2 (m_Plan_hasPlace hX hG p0 M b hb) ⟨Nat.le_of_ble_eq_true rfl, Nat.le_of_ble_eq_true rfl⟩ ⟨Nat.le_of_ble_eq_true rfl, Nat.le_of_ble_eq_true rfl⟩) (fun x1 _ => ?_)
  refine zk_if_eq (tgt := 17) (pc := 5) B dX3_arrivalAt_5 (by decide) (fun _ => ?_) (fun _ => ?_)
  · refine zk_iconst (v := (-1)) (pc := 17) B dX3_arrivalAt_17 (by decide) ?_
    exact zk_iret (pc := 18) B dX3_arrivalAt_18 rfl rfl (Nat.le_of_ble_eq_true rfl) (Nat.le_of_ble_eq_true rfl) rfl
  · refine zk_aload_n (pc := 8) B dX3_arrivalAt_8 0 rfl rfl ?_
    refine zk_getr (pc := 9) B kx_3 (gPlan_s hG) 8 (by decide) kf_3_21 rfl (gPlan_f8 hG) dX3_arrivalAt_9 ?_
    refine zk_iload_n (pc := 12) B dX3_arrivalAt_12 1 rfl rfl ?_
    refine zk_iald (pc := 13) B (gPlan_t8 hG) dX3_arrivalAt_13 ?_
    refine zk_goto (tgt := 18) (pc := 14) B dX3_arrivalAt_14 (by decide) ?_
    exact zk_iret (pc := 18) B dX3_arrivalAt_18 rfl rfl (Nat.le_of_ble_eq_true rfl) (Nat.le_of_ble_eq_true rfl) rfl
set_option maxHeartbeats 4000000 in
set_option maxRecDepth 100000 in
theorem m_Insertion_isAsGoodAs {X : z_X} (hX : z_ok X) {G : z_Gr} {o : Nat} (hG : g_Sys G o) (p0 : Int32) (p1 : Int32) (M : z_Mem) (b : Int32) (h : F_Insertion_isAsGoodAs o p0 p1 M = some b) : z_Ct X yX2_isAsGoodAs cX2_isAsGoodAs 3 (some .boolean) ({ frames := 0, cells := 0, slots := 0, locals := 0 } : Room) [.ref (o + 494), .int p0, .int p1] G M (fun o9 G9 M9 => G9 = G ∧ (o9, M9) = (z_ci M) b) := by
  refine z_enter hX (by decide) (Nat.le_of_ble_eq_true rfl) h (fun F B hR => ?_)
  have J24 : z_K X F 3 0 0 G (z_ci M) b 0 0 24 [] [] M (F_Insertion_isAsGoodAs_J24 o M) := by
    unfold F_Insertion_isAsGoodAs_J24
    refine zk_iconst (v := 1) (pc := 24) B dX2_isAsGoodAs_24 (by decide) ?_
    refine zk_goto (tgt := 29) (pc := 25) B dX2_isAsGoodAs_25 (by decide) ?_
    exact zk_iret (pc := 29) B dX2_isAsGoodAs_29 rfl rfl (Nat.le_of_ble_eq_true rfl) (Nat.le_of_ble_eq_true rfl) rfl
  show z_K X F 3 0 0 G (z_ci M) b 0 0 0 [(0, .ref (o + 494)), (1, .int p0), (2, .int p1)] [] M (F_Insertion_isAsGoodAs o p0 p1 M)
  unfold F_Insertion_isAsGoodAs
  refine zk_aload_n (pc := 0) B dX2_isAsGoodAs_0 0 rfl rfl ?_
  refine zk_geti (pc := 1) B kx_2 (gInsertion_s hG) 0 (by decide) kf_2_53 rfl dX2_isAsGoodAs_1 ?_
  refine zk_iload_n (pc := 4) B dX2_isAsGoodAs_4 1 rfl rfl ?_
  refine zk_icmp_lt (tgt := 24) (pc := 5) B dX2_isAsGoodAs_5 (by decide) (fun _ => ?_) (fun _ => ?_)
  · refine zk_sub [] rfl ?_
    exact J24
  · refine zk_aload_n (pc := 8) B dX2_isAsGoodAs_8 0 rfl rfl ?_
    refine zk_geti (pc := 9) B kx_2 (gInsertion_s hG) 0 (by decide) kf_2_53 rfl dX2_isAsGoodAs_9 ?_
    refine zk_iload_n (pc := 12) B dX2_isAsGoodAs_12 1 rfl rfl ?_
    refine zk_icmp_ne (tgt := 28) (pc := 13) B dX2_isAsGoodAs_13 (by decide) (fun _ => ?_) (fun _ => ?_)
    · refine zk_iconst (v := 0) (pc := 28) B dX2_isAsGoodAs_28 (by decide) ?_
      exact zk_iret (pc := 29) B dX2_isAsGoodAs_29 rfl rfl (Nat.le_of_ble_eq_true rfl) (Nat.le_of_ble_eq_true rfl) rfl
    · refine zk_aload_n (pc := 16) B dX2_isAsGoodAs_16 0 rfl rfl ?_
      refine zk_geti (pc := 17) B kx_2 (gInsertion_s hG) 1 (by decide) kf_2_56 rfl dX2_isAsGoodAs_17 ?_
      refine zk_iload_n (pc := 20) B dX2_isAsGoodAs_20 2 rfl rfl ?_
      refine zk_icmp_gt (tgt := 28) (pc := 21) B dX2_isAsGoodAs_21 (by decide) (fun _ => ?_) (fun _ => ?_)
      · refine zk_iconst (v := 0) (pc := 28) B dX2_isAsGoodAs_28 (by decide) ?_
        exact zk_iret (pc := 29) B dX2_isAsGoodAs_29 rfl rfl (Nat.le_of_ble_eq_true rfl) (Nat.le_of_ble_eq_true rfl) rfl
      · refine zk_sub [] rfl ?_
        exact J24
set_option maxHeartbeats 4000000 in
set_option maxRecDepth 100000 in
theorem m_Plan_doneAt {X : z_X} (hX : z_ok X) {G : z_Gr} {o : Nat} (hG : g_Sys G o) (p0 : Int32) (M : z_Mem) (b : Int32) (h : F_Plan_doneAt o p0 M = some b) : z_Ct X yX3_doneAt cX3_doneAt 2 (some .int) ({ frames := 1, cells := 0, slots := 0, locals := 21 } : Room) [.ref (o + 487), .int p0] G M (fun o9 G9 M9 => G9 = G ∧ (o9, M9) = (z_ci M) b) := by
  refine z_enter hX (by decide) (Nat.le_of_ble_eq_true rfl) h (fun F B hR => ?_)
  show z_K X F 2 0 0 G (z_ci M) b 0 0 0 [(0, .ref (o + 487)), (1, .int p0)] [] M (F_Plan_doneAt o p0 M)
  unfold F_Plan_doneAt
  refine zk_aload_n (pc := 0) B dX3_doneAt_0 0 rfl rfl ?_
  refine zk_iload_n (pc := 1) B dX3_doneAt_1 1 rfl rfl ?_
  refine zk_cpi (pc := 2) (k' := 0) (n' := 0) B rfl rfl (Nat.le_of_ble_eq_true rfl) (Nat.le_of_ble_eq_true rfl) (fun b hb => zr_V B hR kV_yX3_hasPlace km_3_38 kx_3 (gPlan_s hG) [.int p0] rfl rfl (Nat.le_of_ble_eq_true rfl) dX3_doneAt_2 (m_Plan_hasPlace hX hG p0 M b hb) ⟨Nat.le_of_ble_eq_true rfl, Nat.le_of_ble_eq_true rfl⟩ ⟨Nat.le_of_ble_eq_true rfl, Nat.le_of_ble_eq_true rfl⟩) (fun x1 _ => ?_)
  refine zk_if_eq (tgt := 17) (pc := 5) B dX3_doneAt_5 (by decide) (fun _ => ?_) (fun _ => ?_)
  · refine zk_iconst (v := (-1)) (pc := 17) B dX3_doneAt_17 (by decide) ?_
    exact zk_iret (pc := 18) B dX3_doneAt_18 rfl rfl (Nat.le_of_ble_eq_true rfl) (Nat.le_of_ble_eq_true rfl) rfl
  · refine zk_aload_n (pc := 8) B dX3_doneAt_8 0 rfl rfl ?_
    refine zk_getr (pc := 9) B kx_3 (gPlan_s hG) 9 (by decide) kf_3_24 rfl (gPlan_f9 hG) dX3_doneAt_9 ?_
    refine zk_iload_n (pc := 12) B dX3_doneAt_12 1 rfl rfl ?_
    refine zk_iald (pc := 13) B (gPlan_t9 hG) dX3_doneAt_13 ?_
    refine zk_goto (tgt := 18) (pc := 14) B dX3_doneAt_14 (by decide) ?_
    exact zk_iret (pc := 18) B dX3_doneAt_18 rfl rfl (Nat.le_of_ble_eq_true rfl) (Nat.le_of_ble_eq_true rfl) rfl
set_option maxHeartbeats 4000000 in
set_option maxRecDepth 100000 in
theorem m_Plan_stintBehind {X : z_X} (hX : z_ok X) {G : z_Gr} {o : Nat} (hG : g_Sys G o) (p0 : Int32) (p1 : Int32) (p2 : Int32) (p3 : Int32) (M : z_Mem) (b : Int32) (h : F_Plan_stintBehind o p0 p1 p2 p3 M = some b) : z_Ct X yX3_stintBehind cX3_stintBehind 5 (some .int) ({ frames := 1, cells := 0, slots := 0, locals := 21 } : Room) [.ref (o + 487), .int p0, .int p1, .int p2, .int p3] G M (fun o9 G9 M9 => G9 = G ∧ (o9, M9) = (z_ci M) b) := by
  refine z_enter hX (by decide) (Nat.le_of_ble_eq_true rfl) h (fun F B hR => ?_)
  show z_K X F 5 0 0 G (z_ci M) b 0 0 0 [(0, .ref (o + 487)), (1, .int p0), (2, .int p1), (3, .int p2), (4, .int p3)] [] M (F_Plan_stintBehind o p0 p1 p2 p3 M)
  unfold F_Plan_stintBehind
  refine zk_iload_n (pc := 0) B dX3_stintBehind_0 3 rfl rfl ?_
  refine zk_iload_n (pc := 1) B dX3_stintBehind_1 2 rfl rfl ?_
  refine zk_isub (pc := 2) B dX3_stintBehind_2 ?_
  refine zk_aload_n (pc := 3) B dX3_stintBehind_3 0 rfl rfl ?_
  refine zk_getr (pc := 4) B kx_3 (gPlan_s hG) 2 (by decide) kf_3_34 rfl (gPlan_f2 hG) dX3_stintBehind_4 ?_
  refine zk_bipush (v := 6) (pc := 7) B dX3_stintBehind_7 (by decide) ?_
  refine zk_cpi (pc := 9) (k' := 0) (n' := 0) B rfl rfl (Nat.le_of_ble_eq_true rfl) (Nat.le_of_ble_eq_true rfl) (fun b hb => zr_V B hR kV_yX0_ruleValue km_3_129 kx_0 (gDesk_s (gPlan_t2 hG)) [.int 6] rfl rfl (Nat.le_of_ble_eq_true rfl) dX3_stintBehind_9 (m_Desk_ruleValue hX (gPlan_t2 hG) 6 M b hb) ⟨Nat.le_of_ble_eq_true rfl, Nat.le_of_ble_eq_true rfl⟩ ⟨Nat.le_of_ble_eq_true rfl, Nat.le_of_ble_eq_true rfl⟩) (fun x1 _ => ?_)
  refine zk_icmp_lt (tgt := 20) (pc := 12) B dX3_stintBehind_12 (by decide) (fun _ => ?_) (fun _ => ?_)
  · refine zk_iload_n (pc := 20) B dX3_stintBehind_20 1 rfl rfl ?_
    refine zk_iload (pc := 21) B dX3_stintBehind_21 4 rfl ?_
    refine zk_iadd (pc := 23) B dX3_stintBehind_23 ?_
    exact zk_iret (pc := 24) B dX3_stintBehind_24 rfl rfl (Nat.le_of_ble_eq_true rfl) (Nat.le_of_ble_eq_true rfl) rfl
  · refine zk_iload (pc := 15) B dX3_stintBehind_15 4 rfl ?_
    refine zk_goto (tgt := 24) (pc := 17) B dX3_stintBehind_17 (by decide) ?_
    exact zk_iret (pc := 24) B dX3_stintBehind_24 rfl rfl (Nat.le_of_ble_eq_true rfl) (Nat.le_of_ble_eq_true rfl) rfl
set_option maxHeartbeats 4000000 in
set_option maxRecDepth 100000 in
theorem m_Plan_isInTime {X : z_X} (hX : z_ok X) {G : z_Gr} {o : Nat} (hG : g_Sys G o) (p0 : Int32) (M : z_Mem) (b : Int32 × z_Mem) (h : F_Plan_isInTime o p0 M = some b) : z_Ct X yX3_isInTime cX3_isInTime 5 (some .boolean) ({ frames := 1, cells := 0, slots := 0, locals := 21 } : Room) [.ref (o + 487), .int p0] G M (fun o9 G9 M9 => G9 = G ∧ (o9, M9) = z_cim b) := by
  refine z_enter hX (by decide) (Nat.le_of_ble_eq_true rfl) h (fun F B hR => ?_)
  have J107 : ∀ (v1 : Int32) (u3 : Nat) (hu3 : g_Ride G u3) (s0 : Int32) (M : z_Mem), z_K X F 5 0 0 G z_cim b 0 0 107 [(0, .ref (o + 487)), (1, .int v1), (3, .ref u3)] [.int s0] M (F_Plan_isInTime_J107 o v1 u3 s0 M) := by
    intro v1 u3 hu3 s0 M
    unfold F_Plan_isInTime_J107
    refine zk_istore (loc' := [(4, .int s0), (0, .ref (o + 487)), (1, .int v1), (3, .ref u3)]) (pc := 107) B dX3_isInTime_107 (by decide) rfl ?_
    refine zk_aload_n (pc := 109) B dX3_isInTime_109 1 rfl rfl ?_
    refine zk_getr (pc := 110) B kx_3 (gPlan_s hG) 8 (by decide) kf_3_21 rfl (gPlan_f8 hG) dX3_isInTime_110 ?_
    refine zk_iload_n (pc := 113) B dX3_isInTime_113 2 rfl rfl ?_
    refine zk_iald (pc := 114) B (gPlan_t8 hG) dX3_isInTime_114 ?_
    refine zk_iload (pc := 115) B dX3_isInTime_115 0 rfl ?_
    refine zk_aload_n (pc := 117) B dX3_isInTime_117 3 rfl rfl ?_
    refine zk_geti (pc := 118) B kx_5 (gRide_s hu3) 8 (by decide) kf_3_167 rfl dX3_isInTime_118 ?_
    refine zk_iadd (pc := 121) B dX3_isInTime_121 ?_
    refine zk_icmp_gt (tgt := 129) (pc := 122) B dX3_isInTime_122 (by decide) (fun _ => ?_) (fun _ => ?_)
    · refine zk_iconst (v := 0) (pc := 129) B dX3_isInTime_129 (by decide) ?_
      exact zk_iret (pc := 130) B dX3_isInTime_130 rfl rfl (Nat.le_of_ble_eq_true rfl) (Nat.le_of_ble_eq_true rfl) rfl
    · refine zk_iconst (v := 1) (pc := 125) B dX3_isInTime_125 (by decide) ?_
      refine zk_goto (tgt := 130) (pc := 126) B dX3_isInTime_126 (by decide) ?_
      exact zk_iret (pc := 130) B dX3_isInTime_130 rfl rfl (Nat.le_of_ble_eq_true rfl) (Nat.le_of_ble_eq_true rfl) rfl
  have J21 : ∀ (v1 : Int32) (s0 : Int32) (M : z_Mem), z_K X F 5 0 0 G z_cim b 0 0 21 [(0, .ref (o + 487)), (1, .int v1)] [.int s0] M (F_Plan_isInTime_J21 o v1 s0 M) := by
    intro v1 s0 M
    unfold F_Plan_isInTime_J21
    refine zk_istore_n (loc' := [(2, .int s0), (0, .ref (o + 487)), (1, .int v1)]) (pc := 21) B dX3_isInTime_21 rfl (by decide) rfl ?_
    refine zk_iload_n (pc := 22) B dX3_isInTime_22 0 rfl rfl ?_
    refine zk_if_lt (tgt := 32) (pc := 23) B dX3_isInTime_23 (by decide) (fun _ => ?_) (fun _ => ?_)
    · refine zk_iconst (v := 0) (pc := 32) B dX3_isInTime_32 (by decide) ?_
      exact zk_iret (pc := 33) B dX3_isInTime_33 rfl rfl (Nat.le_of_ble_eq_true rfl) (Nat.le_of_ble_eq_true rfl) rfl
    · refine zk_iload_n (pc := 26) B dX3_isInTime_26 0 rfl rfl ?_
      refine zk_bipush (v := 24) (pc := 27) B dX3_isInTime_27 (by decide) ?_
      refine zk_icmp_lt (tgt := 34) (pc := 29) B dX3_isInTime_29 (by decide) (fun _ => ?_) (fun _ => ?_)
      · refine zk_aload_n (pc := 34) B dX3_isInTime_34 1 rfl rfl ?_
        refine zk_getr (pc := 35) B kx_3 (gPlan_s hG) 2 (by decide) kf_3_34 rfl (gPlan_f2 hG) dX3_isInTime_35 ?_
        refine zk_iload_n (pc := 38) B dX3_isInTime_38 0 rfl rfl ?_
        refine zk_cpr (pc := 39) (k' := 0) (n' := 0) B rfl rfl (Nat.le_of_ble_eq_true rfl) (Nat.le_of_ble_eq_true rfl) (fun b hb => zr_V B hR kV_yX0_rideAt km_3_117 kx_0 (gDesk_s (gPlan_t2 hG)) [.int s0] rfl rfl (Nat.le_of_ble_eq_true rfl) dX3_isInTime_39 (m_Desk_rideAt hX (gPlan_t2 hG) s0 M b hb) ⟨Nat.le_of_ble_eq_true rfl, Nat.le_of_ble_eq_true rfl⟩ ⟨Nat.le_of_ble_eq_true rfl, Nat.le_of_ble_eq_true rfl⟩) (fun t3 h4 => ?_)
        have ht3 : g_Ride G t3 := fr_Desk_rideAt (gPlan_t2 hG) h4
        refine zk_astore_n (loc' := [(3, .ref t3), (2, .int s0), (0, .ref (o + 487)), (1, .int v1)]) (pc := 42) B dX3_isInTime_42 rfl (by decide) rfl ?_
        refine zk_aload_n (pc := 43) B dX3_isInTime_43 2 rfl rfl ?_
        refine zk_getr (pc := 44) B kx_3 (gPlan_s hG) 5 (by decide) kf_3_9 rfl (gPlan_f5 hG) dX3_isInTime_44 ?_
        refine zk_iload_n (pc := 47) B dX3_isInTime_47 3 rfl rfl ?_
        refine zk_iald (pc := 48) B (gPlan_t5 hG) dX3_isInTime_48 ?_
        refine zk_cpi (pc := 49) (k' := 0) (n' := 0) B rfl rfl (Nat.le_of_ble_eq_true rfl) (Nat.le_of_ble_eq_true rfl) (fun b hb => zr_S B hR kS_yX0_isPickup km_3_111 [.int (M.1 (o + 488) v1.toNatClampNeg)] rfl rfl (Nat.le_of_ble_eq_true rfl) dX3_isInTime_49 (m_Desk_isPickup hX (M.1 (o + 488) v1.toNatClampNeg) M b hb) ⟨Nat.le_of_ble_eq_true rfl, Nat.le_of_ble_eq_true rfl⟩ ⟨Nat.le_of_ble_eq_true rfl, Nat.le_of_ble_eq_true rfl⟩) (fun x5 _ => ?_)
        refine zk_if_eq (tgt := 86) (pc := 52) B dX3_isInTime_52 (by decide) (fun _ => ?_) (fun _ => ?_)
        · refine zk_aload_n (pc := 86) B dX3_isInTime_86 0 rfl rfl ?_
          refine zk_geti (pc := 87) B kx_5 (gRide_s ht3) 0 (by decide) kf_3_161 rfl dX3_isInTime_87 ?_
          refine zk_iconst (v := 2) (pc := 90) B dX3_isInTime_90 (by decide) ?_
          refine zk_icmp_ne (tgt := 101) (pc := 91) B dX3_isInTime_91 (by decide) (fun _ => ?_) (fun _ => ?_)
          · refine zk_aload_n (pc := 101) B dX3_isInTime_101 2 rfl rfl ?_
            refine zk_getr (pc := 102) B kx_3 (gPlan_s hG) 10 (by decide) kf_3_27 rfl (gPlan_f10 hG) dX3_isInTime_102 ?_
            refine zk_iload_n (pc := 105) B dX3_isInTime_105 1 rfl rfl ?_
            refine zk_iald (pc := 106) B (gPlan_t10 hG) dX3_isInTime_106 ?_
            refine zk_sub [2, 3, 0] rfl ?_
            exact J107 v1 t3 ht3 (M.1 (o + 493) s0.toNatClampNeg) M
          · refine zk_aload_n (pc := 94) B dX3_isInTime_94 0 rfl rfl ?_
            refine zk_geti (pc := 95) B kx_5 (gRide_s ht3) 10 (by decide) kf_3_164 rfl dX3_isInTime_95 ?_
            refine zk_goto (tgt := 107) (pc := 98) B dX3_isInTime_98 (by decide) ?_
            refine zk_sub [2, 3, 0] rfl ?_
            exact J107 v1 t3 ht3 (M.1 t3 10) M
        · refine zk_aload_n (pc := 55) B dX3_isInTime_55 2 rfl rfl ?_
          refine zk_getr (pc := 56) B kx_3 (gPlan_s hG) 10 (by decide) kf_3_27 rfl (gPlan_f10 hG) dX3_isInTime_56 ?_
          refine zk_iload_n (pc := 59) B dX3_isInTime_59 1 rfl rfl ?_
          refine zk_aload_n (pc := 60) B dX3_isInTime_60 2 rfl rfl ?_
          refine zk_getr (pc := 61) B kx_3 (gPlan_s hG) 9 (by decide) kf_3_24 rfl (gPlan_f9 hG) dX3_isInTime_61 ?_
          refine zk_iload_n (pc := 64) B dX3_isInTime_64 3 rfl rfl ?_
          refine zk_iald (pc := 65) B (gPlan_t9 hG) dX3_isInTime_65 ?_
          refine zk_iast (pc := 66) B (gPlan_t10 hG) dX3_isInTime_66 ?_
          refine zk_lm (fun M6 => ?_)
          refine zk_aload_n (pc := 67) B dX3_isInTime_67 2 rfl rfl ?_
          refine zk_getr (pc := 68) B kx_3 (gPlan_s hG) 8 (by decide) kf_3_21 rfl (gPlan_f8 hG) dX3_isInTime_68 ?_
          refine zk_iload_n (pc := 71) B dX3_isInTime_71 3 rfl rfl ?_
          refine zk_iald (pc := 72) B (gPlan_t8 hG) dX3_isInTime_72 ?_
          refine zk_aload_n (pc := 73) B dX3_isInTime_73 0 rfl rfl ?_
          refine zk_geti (pc := 74) B kx_5 (gRide_s ht3) 5 (by decide) kf_3_158 rfl dX3_isInTime_74 ?_
          refine zk_icmp_gt (tgt := 84) (pc := 77) B dX3_isInTime_77 (by decide) (fun _ => ?_) (fun _ => ?_)
          · refine zk_iconst (v := 0) (pc := 84) B dX3_isInTime_84 (by decide) ?_
            exact zk_iret (pc := 85) B dX3_isInTime_85 rfl rfl (Nat.le_of_ble_eq_true rfl) (Nat.le_of_ble_eq_true rfl) rfl
          · refine zk_iconst (v := 1) (pc := 80) B dX3_isInTime_80 (by decide) ?_
            refine zk_goto (tgt := 85) (pc := 81) B dX3_isInTime_81 (by decide) ?_
            exact zk_iret (pc := 85) B dX3_isInTime_85 rfl rfl (Nat.le_of_ble_eq_true rfl) (Nat.le_of_ble_eq_true rfl) rfl
      · refine zk_iconst (v := 0) (pc := 32) B dX3_isInTime_32 (by decide) ?_
        exact zk_iret (pc := 33) B dX3_isInTime_33 rfl rfl (Nat.le_of_ble_eq_true rfl) (Nat.le_of_ble_eq_true rfl) rfl
  show z_K X F 5 0 0 G z_cim b 0 0 0 [(0, .ref (o + 487)), (1, .int p0)] [] M (F_Plan_isInTime o p0 M)
  unfold F_Plan_isInTime
  refine zk_aload_n (pc := 0) B dX3_isInTime_0 0 rfl rfl ?_
  refine zk_iload_n (pc := 1) B dX3_isInTime_1 1 rfl rfl ?_
  refine zk_cpi (pc := 2) (k' := 0) (n' := 0) B rfl rfl (Nat.le_of_ble_eq_true rfl) (Nat.le_of_ble_eq_true rfl) (fun b hb => zr_V B hR kV_yX3_hasPlace km_3_38 kx_3 (gPlan_s hG) [.int p0] rfl rfl (Nat.le_of_ble_eq_true rfl) dX3_isInTime_2 (m_Plan_hasPlace hX hG p0 M b hb) ⟨Nat.le_of_ble_eq_true rfl, Nat.le_of_ble_eq_true rfl⟩ ⟨Nat.le_of_ble_eq_true rfl, Nat.le_of_ble_eq_true rfl⟩) (fun x1 _ => ?_)
  refine zk_if_eq (tgt := 20) (pc := 5) B dX3_isInTime_5 (by decide) (fun _ => ?_) (fun _ => ?_)
  · refine zk_iconst (v := (-1)) (pc := 20) B dX3_isInTime_20 (by decide) ?_
    exact J21 p0 (-1) M
  · refine zk_aload_n (pc := 8) B dX3_isInTime_8 0 rfl rfl ?_
    refine zk_getr (pc := 9) B kx_3 (gPlan_s hG) 5 (by decide) kf_3_9 rfl (gPlan_f5 hG) dX3_isInTime_9 ?_
    refine zk_iload_n (pc := 12) B dX3_isInTime_12 1 rfl rfl ?_
    refine zk_iald (pc := 13) B (gPlan_t5 hG) dX3_isInTime_13 ?_
    refine zk_cpi (pc := 14) (k' := 0) (n' := 0) B rfl rfl (Nat.le_of_ble_eq_true rfl) (Nat.le_of_ble_eq_true rfl) (fun b hb => zr_S B hR kS_yX0_rideNumber km_3_114 [.int (M.1 (o + 488) p0.toNatClampNeg)] rfl rfl (Nat.le_of_ble_eq_true rfl) dX3_isInTime_14 (m_Desk_rideNumber hX (M.1 (o + 488) p0.toNatClampNeg) M b hb) ⟨Nat.le_of_ble_eq_true rfl, Nat.le_of_ble_eq_true rfl⟩ ⟨Nat.le_of_ble_eq_true rfl, Nat.le_of_ble_eq_true rfl⟩) (fun x2 _ => ?_)
    refine zk_goto (tgt := 21) (pc := 17) B dX3_isInTime_17 (by decide) ?_
    exact J21 p0 x2 M
set_option maxHeartbeats 4000000 in
set_option maxRecDepth 100000 in
theorem m_Plan_personsChange {X : z_X} (hX : z_ok X) {G : z_Gr} {o : Nat} (hG : g_Sys G o) (p0 : Int32) (M : z_Mem) (b : Int32) (h : F_Plan_personsChange o p0 M = some b) : z_Ct X yX3_personsChange cX3_personsChange 3 (some .int) ({ frames := 1, cells := 0, slots := 0, locals := 21 } : Room) [.ref (o + 487), .int p0] G M (fun o9 G9 M9 => G9 = G ∧ (o9, M9) = (z_ci M) b) := by
  refine z_enter hX (by decide) (Nat.le_of_ble_eq_true rfl) h (fun F B hR => ?_)
  show z_K X F 3 0 0 G (z_ci M) b 0 0 0 [(0, .ref (o + 487)), (1, .int p0)] [] M (F_Plan_personsChange o p0 M)
  unfold F_Plan_personsChange
  refine zk_aload_n (pc := 0) B dX3_personsChange_0 0 rfl rfl ?_
  refine zk_getr (pc := 1) B kx_3 (gPlan_s hG) 2 (by decide) kf_3_34 rfl (gPlan_f2 hG) dX3_personsChange_1 ?_
  refine zk_iload_n (pc := 4) B dX3_personsChange_4 1 rfl rfl ?_
  refine zk_cpi (pc := 5) (k' := 0) (n' := 0) B rfl rfl (Nat.le_of_ble_eq_true rfl) (Nat.le_of_ble_eq_true rfl) (fun b hb => zr_S B hR kS_yX0_rideNumber km_3_114 [.int p0] rfl rfl (Nat.le_of_ble_eq_true rfl) dX3_personsChange_5 (m_Desk_rideNumber hX p0 M b hb) ⟨Nat.le_of_ble_eq_true rfl, Nat.le_of_ble_eq_true rfl⟩ ⟨Nat.le_of_ble_eq_true rfl, Nat.le_of_ble_eq_true rfl⟩) (fun x1 _ => ?_)
  refine zk_cpr (pc := 8) (k' := 0) (n' := 0) B rfl rfl (Nat.le_of_ble_eq_true rfl) (Nat.le_of_ble_eq_true rfl) (fun b hb => zr_V B hR kV_yX0_rideAt km_3_117 kx_0 (gDesk_s (gPlan_t2 hG)) [.int x1] rfl rfl (Nat.le_of_ble_eq_true rfl) dX3_personsChange_8 (m_Desk_rideAt hX (gPlan_t2 hG) x1 M b hb) ⟨Nat.le_of_ble_eq_true rfl, Nat.le_of_ble_eq_true rfl⟩ ⟨Nat.le_of_ble_eq_true rfl, Nat.le_of_ble_eq_true rfl⟩) (fun t2 h3 => ?_)
  have ht2 : g_Ride G t2 := fr_Desk_rideAt (gPlan_t2 hG) h3
  refine zk_astore_n (loc' := [(2, .ref t2), (0, .ref (o + 487)), (1, .int p0)]) (pc := 11) B dX3_personsChange_11 rfl (by decide) rfl ?_
  refine zk_iload_n (pc := 12) B dX3_personsChange_12 2 rfl rfl ?_
  refine zk_cpi (pc := 13) (k' := 0) (n' := 0) B rfl rfl (Nat.le_of_ble_eq_true rfl) (Nat.le_of_ble_eq_true rfl) (fun b hb => zr_S B hR kS_yX0_isPickup km_3_111 [.int p0] rfl rfl (Nat.le_of_ble_eq_true rfl) dX3_personsChange_13 (m_Desk_isPickup hX p0 M b hb) ⟨Nat.le_of_ble_eq_true rfl, Nat.le_of_ble_eq_true rfl⟩ ⟨Nat.le_of_ble_eq_true rfl, Nat.le_of_ble_eq_true rfl⟩) (fun x4 _ => ?_)
  refine zk_if_ne (tgt := 25) (pc := 16) B dX3_personsChange_16 (by decide) (fun _ => ?_) (fun _ => ?_)
  · refine zk_aload_n (pc := 25) B dX3_personsChange_25 0 rfl rfl ?_
    refine zk_geti (pc := 26) B kx_5 (gRide_s ht2) 13 (by decide) kf_3_126 rfl dX3_personsChange_26 ?_
    refine zk_if_eq (tgt := 36) (pc := 29) B dX3_personsChange_29 (by decide) (fun _ => ?_) (fun _ => ?_)
    · refine zk_aload_n (pc := 36) B dX3_personsChange_36 0 rfl rfl ?_
      refine zk_geti (pc := 37) B kx_5 (gRide_s ht2) 3 (by decide) kf_3_170 rfl dX3_personsChange_37 ?_
      exact zk_iret (pc := 40) B dX3_personsChange_40 rfl rfl (Nat.le_of_ble_eq_true rfl) (Nat.le_of_ble_eq_true rfl) rfl
    · refine zk_iconst (v := 0) (pc := 32) B dX3_personsChange_32 (by decide) ?_
      refine zk_goto (tgt := 40) (pc := 33) B dX3_personsChange_33 (by decide) ?_
      exact zk_iret (pc := 40) B dX3_personsChange_40 rfl rfl (Nat.le_of_ble_eq_true rfl) (Nat.le_of_ble_eq_true rfl) rfl
  · refine zk_aload_n (pc := 19) B dX3_personsChange_19 0 rfl rfl ?_
    refine zk_geti (pc := 20) B kx_5 (gRide_s ht2) 3 (by decide) kf_3_170 rfl dX3_personsChange_20 ?_
    refine zk_ineg (pc := 23) B dX3_personsChange_23 ?_
    exact zk_iret (pc := 24) B dX3_personsChange_24 rfl rfl (Nat.le_of_ble_eq_true rfl) (Nat.le_of_ble_eq_true rfl) rfl
set_option maxHeartbeats 4000000 in
set_option maxRecDepth 100000 in
theorem m_Plan_keepsLimits {X : z_X} (hX : z_ok X) {G : z_Gr} {o : Nat} (hG : g_Sys G o) {r0 : Nat} (hr0 : g_Taxi G r0) (M : z_Mem) (b : Int32 × z_Mem) (h : F_Plan_keepsLimits o r0 M = some b) : z_Ct X yX3_keepsLimits cX3_keepsLimits 6 (some .boolean) ({ frames := 2, cells := 0, slots := 0, locals := 45 } : Room) [.ref (o + 487), .ref r0] G M (fun o9 G9 M9 => G9 = G ∧ (o9, M9) = z_cim b) := by
  refine z_enter hX (by decide) (Nat.le_of_ble_eq_true rfl) h (fun F B hR => ?_)
  have L58 : ∀ (nf58 : Nat), ∀ (u1 : Nat) (hu1 : g_Taxi G u1) (v2 : Int32) (v3 : Int32) (v4 : Int32) (v5 : Int32) (M : z_Mem), z_K X F 6 0 0 G z_cim b 0 0 58 [(0, .ref (o + 487)), (1, .ref u1), (2, .int v2), (3, .int v3), (4, .int v4), (5, .int v5)] [] M (F_Plan_keepsLimits_L58 o nf58 u1 v2 v3 v4 v5 M) := by
    intro nf58
    induction nf58 with
    | zero => intro u1 hu1 v2 v3 v4 v5 M; exact zk_none
    | succ nf58 ih58 =>
      intro u1 hu1 v2 v3 v4 v5 M
      show z_K X F 6 0 0 G z_cim b 0 0 58 [(0, .ref (o + 487)), (1, .ref u1), (2, .int v2), (3, .int v3), (4, .int v4), (5, .int v5)] [] M (F_Plan_keepsLimits_B58 o (F_Plan_keepsLimits_L58 o nf58) u1 v2 v3 v4 v5 M)
      unfold F_Plan_keepsLimits_B58
      refine zk_iload (pc := 58) B dX3_keepsLimits_58 5 rfl ?_
      refine zk_aload_n (pc := 60) B dX3_keepsLimits_60 0 rfl rfl ?_
      refine zk_geti (pc := 61) B kx_3 (gPlan_s hG) 3 (by decide) kf_3_42 rfl dX3_keepsLimits_61 ?_
      refine zk_icmp_ge (tgt := 156) (pc := 64) B dX3_keepsLimits_64 (by decide) (fun _ => ?_) (fun _ => ?_)
      · refine zk_iconst (v := 1) (pc := 156) B dX3_keepsLimits_156 (by decide) ?_
        exact zk_iret (pc := 157) B dX3_keepsLimits_157 rfl rfl (Nat.le_of_ble_eq_true rfl) (Nat.le_of_ble_eq_true rfl) rfl
      · refine zk_iload (pc := 67) B dX3_keepsLimits_67 5 rfl ?_
        refine zk_bipush (v := 12) (pc := 69) B dX3_keepsLimits_69 (by decide) ?_
        refine zk_icmp_ge (tgt := 156) (pc := 71) B dX3_keepsLimits_71 (by decide) (fun _ => ?_) (fun _ => ?_)
        · refine zk_iconst (v := 1) (pc := 156) B dX3_keepsLimits_156 (by decide) ?_
          exact zk_iret (pc := 157) B dX3_keepsLimits_157 rfl rfl (Nat.le_of_ble_eq_true rfl) (Nat.le_of_ble_eq_true rfl) rfl
        · refine zk_aload_n (pc := 74) B dX3_keepsLimits_74 0 rfl rfl ?_
          refine zk_iload_n (pc := 75) B dX3_keepsLimits_75 3 rfl rfl ?_
          refine zk_iload (pc := 76) B dX3_keepsLimits_76 4 rfl ?_
          refine zk_aload_n (pc := 78) B dX3_keepsLimits_78 0 rfl rfl ?_
          refine zk_getr (pc := 79) B kx_3 (gPlan_s hG) 7 (by decide) kf_3_18 rfl (gPlan_f7 hG) dX3_keepsLimits_79 ?_
          refine zk_iload (pc := 82) B dX3_keepsLimits_82 5 rfl ?_
          refine zk_iald (pc := 84) B (gPlan_t7 hG) dX3_keepsLimits_84 ?_
          refine zk_aload_n (pc := 85) B dX3_keepsLimits_85 0 rfl rfl ?_
          refine zk_getr (pc := 86) B kx_3 (gPlan_s hG) 6 (by decide) kf_3_15 rfl (gPlan_f6 hG) dX3_keepsLimits_86 ?_
          refine zk_iload (pc := 89) B dX3_keepsLimits_89 5 rfl ?_
          refine zk_iald (pc := 91) B (gPlan_t6 hG) dX3_keepsLimits_91 ?_
          refine zk_cpi (pc := 92) (k' := 0) (n' := 0) B rfl rfl (Nat.le_of_ble_eq_true rfl) (Nat.le_of_ble_eq_true rfl) (fun b hb => zr_V B hR kV_yX3_stintBehind km_3_145 kx_3 (gPlan_s hG) [.int v3, .int v4, .int (M.1 (o + 490) v5.toNatClampNeg), .int (M.1 (o + 489) v5.toNatClampNeg)] rfl rfl (Nat.le_of_ble_eq_true rfl) dX3_keepsLimits_92 (m_Plan_stintBehind hX hG v3 v4 (M.1 (o + 490) v5.toNatClampNeg) (M.1 (o + 489) v5.toNatClampNeg) M b hb) ⟨Nat.le_of_ble_eq_true rfl, Nat.le_of_ble_eq_true rfl⟩ ⟨Nat.le_of_ble_eq_true rfl, Nat.le_of_ble_eq_true rfl⟩) (fun x5 _ => ?_)
          refine zk_istore_n (loc' := [(3, .int x5), (0, .ref (o + 487)), (1, .ref u1), (2, .int v2), (4, .int v4), (5, .int v5)]) (pc := 95) B dX3_keepsLimits_95 rfl (by decide) rfl ?_
          refine zk_iload_n (pc := 96) B dX3_keepsLimits_96 3 rfl rfl ?_
          refine zk_aload_n (pc := 97) B dX3_keepsLimits_97 2 rfl rfl ?_
          refine zk_geti (pc := 98) B kx_6 (gTaxi_s hu1) 0 (by decide) kf_3_149 rfl dX3_keepsLimits_98 ?_
          refine zk_icmp_gt (tgt := 125) (pc := 101) B dX3_keepsLimits_101 (by decide) (fun _ => ?_) (fun _ => ?_)
          · refine zk_iconst (v := 0) (pc := 125) B dX3_keepsLimits_125 (by decide) ?_
            exact zk_iret (pc := 126) B dX3_keepsLimits_126 rfl rfl (Nat.le_of_ble_eq_true rfl) (Nat.le_of_ble_eq_true rfl) rfl
          · refine zk_iload_n (pc := 104) B dX3_keepsLimits_104 0 rfl rfl ?_
            refine zk_aload_n (pc := 105) B dX3_keepsLimits_105 1 rfl rfl ?_
            refine zk_getr (pc := 106) B kx_3 (gPlan_s hG) 2 (by decide) kf_3_34 rfl (gPlan_f2 hG) dX3_keepsLimits_106 ?_
            refine zk_iconst (v := 5) (pc := 109) B dX3_keepsLimits_109 (by decide) ?_
            refine zk_cpi (pc := 110) (k' := 0) (n' := 0) B rfl rfl (Nat.le_of_ble_eq_true rfl) (Nat.le_of_ble_eq_true rfl) (fun b hb => zr_V B hR kV_yX0_ruleValue km_3_129 kx_0 (gDesk_s (gPlan_t2 hG)) [.int 5] rfl rfl (Nat.le_of_ble_eq_true rfl) dX3_keepsLimits_110 (m_Desk_ruleValue hX (gPlan_t2 hG) 5 M b hb) ⟨Nat.le_of_ble_eq_true rfl, Nat.le_of_ble_eq_true rfl⟩ ⟨Nat.le_of_ble_eq_true rfl, Nat.le_of_ble_eq_true rfl⟩) (fun x6 _ => ?_)
            refine zk_icmp_gt (tgt := 125) (pc := 113) B dX3_keepsLimits_113 (by decide) (fun _ => ?_) (fun _ => ?_)
            · refine zk_iconst (v := 0) (pc := 125) B dX3_keepsLimits_125 (by decide) ?_
              exact zk_iret (pc := 126) B dX3_keepsLimits_126 rfl rfl (Nat.le_of_ble_eq_true rfl) (Nat.le_of_ble_eq_true rfl) rfl
            · refine zk_aload_n (pc := 116) B dX3_keepsLimits_116 1 rfl rfl ?_
              refine zk_iload (pc := 117) B dX3_keepsLimits_117 5 rfl ?_
              refine zk_cim (pc := 119) (k' := 0) (n' := 0) B rfl rfl (Nat.le_of_ble_eq_true rfl) (Nat.le_of_ble_eq_true rfl) (fun b hb => zr_V B hR kV_yX3_isInTime km_3_152 kx_3 (gPlan_s hG) [.int v5] rfl rfl (Nat.le_of_ble_eq_true rfl) dX3_keepsLimits_119 (m_Plan_isInTime hX hG v5 M b hb) ⟨Nat.le_of_ble_eq_true rfl, Nat.le_of_ble_eq_true rfl⟩ ⟨Nat.le_of_ble_eq_true rfl, Nat.le_of_ble_eq_true rfl⟩) (fun x8 M7 => ?_)
              refine zk_if_ne (tgt := 127) (pc := 122) B dX3_keepsLimits_122 (by decide) (fun _ => ?_) (fun _ => ?_)
              · refine zk_iload_n (pc := 127) B dX3_keepsLimits_127 3 rfl rfl ?_
                refine zk_aload_n (pc := 128) B dX3_keepsLimits_128 1 rfl rfl ?_
                refine zk_aload_n (pc := 129) B dX3_keepsLimits_129 1 rfl rfl ?_
                refine zk_getr (pc := 130) B kx_3 (gPlan_s hG) 5 (by decide) kf_3_9 rfl (gPlan_f5 hG) dX3_keepsLimits_130 ?_
                refine zk_iload (pc := 133) B dX3_keepsLimits_133 5 rfl ?_
                refine zk_iald (pc := 135) B (gPlan_t5 hG) dX3_keepsLimits_135 ?_
                refine zk_cpi (pc := 136) (k' := 0) (n' := 0) B rfl rfl (Nat.le_of_ble_eq_true rfl) (Nat.le_of_ble_eq_true rfl) (fun b hb => zr_V B hR kV_yX3_personsChange km_3_155 kx_3 (gPlan_s hG) [.int (M7.1 (o + 488) v5.toNatClampNeg)] rfl rfl (Nat.le_of_ble_eq_true rfl) dX3_keepsLimits_136 (m_Plan_personsChange hX hG (M7.1 (o + 488) v5.toNatClampNeg) M7 b hb) ⟨Nat.le_of_ble_eq_true rfl, Nat.le_of_ble_eq_true rfl⟩ ⟨Nat.le_of_ble_eq_true rfl, Nat.le_of_ble_eq_true rfl⟩) (fun x9 _ => ?_)
                refine zk_iadd (pc := 139) B dX3_keepsLimits_139 ?_
                refine zk_li (fun x10 => ?_)
                refine zk_istore_n (loc' := [(2, .int x10), (3, .int x5), (0, .ref (o + 487)), (1, .ref u1), (4, .int v4), (5, .int v5)]) (pc := 140) B dX3_keepsLimits_140 rfl (by decide) rfl ?_
                refine zk_aload_n (pc := 141) B dX3_keepsLimits_141 2 rfl rfl ?_
                refine zk_getr (pc := 142) B kx_3 (gPlan_s hG) 9 (by decide) kf_3_24 rfl (gPlan_f9 hG) dX3_keepsLimits_142 ?_
                refine zk_iload (pc := 145) B dX3_keepsLimits_145 5 rfl ?_
                refine zk_iald (pc := 147) B (gPlan_t9 hG) dX3_keepsLimits_147 ?_
                refine zk_li (fun x11 => ?_)
                refine zk_istore (loc' := [(4, .int x11), (2, .int x10), (3, .int x5), (0, .ref (o + 487)), (1, .ref u1), (5, .int v5)]) (pc := 148) B dX3_keepsLimits_148 (by decide) rfl ?_
                refine zk_iinc (y := 1) (lf := fun x12 => [(5, .int x12), (4, .int x11), (2, .int x10), (3, .int x5), (0, .ref (o + 487)), (1, .ref u1)]) (pc := 150) B dX3_keepsLimits_150 5 rfl (by decide) (by decide) (fun _ => rfl) (fun x12 => ?_)
                refine zk_goto (tgt := 58) (pc := 153) B dX3_keepsLimits_153 (by decide) ?_
                refine zk_sub [4, 5, 2, 3, 1, 0] rfl ?_
                exact ih58 u1 hu1 x10 x5 x11 x12 M7
              · refine zk_iconst (v := 0) (pc := 125) B dX3_keepsLimits_125 (by decide) ?_
                exact zk_iret (pc := 126) B dX3_keepsLimits_126 rfl rfl (Nat.le_of_ble_eq_true rfl) (Nat.le_of_ble_eq_true rfl) rfl
  show z_K X F 6 0 0 G z_cim b 0 0 0 [(0, .ref (o + 487)), (1, .ref r0)] [] M (F_Plan_keepsLimits o r0 M)
  unfold F_Plan_keepsLimits
  refine zk_aload_n (pc := 0) B dX3_keepsLimits_0 0 rfl rfl ?_
  refine zk_geti (pc := 1) B kx_3 (gPlan_s hG) 3 (by decide) kf_3_42 rfl dX3_keepsLimits_1 ?_
  refine zk_if_ne (tgt := 9) (pc := 4) B dX3_keepsLimits_4 (by decide) (fun _ => ?_) (fun _ => ?_)
  · refine zk_aload_n (pc := 9) B dX3_keepsLimits_9 0 rfl rfl ?_
    refine zk_geti (pc := 10) B kx_3 (gPlan_s hG) 4 (by decide) kf_3_80 rfl dX3_keepsLimits_10 ?_
    refine zk_if_eq (tgt := 33) (pc := 13) B dX3_keepsLimits_13 (by decide) (fun _ => ?_) (fun _ => ?_)
    · refine zk_iconst (v := 0) (pc := 33) B dX3_keepsLimits_33 (by decide) ?_
      exact zk_iret (pc := 34) B dX3_keepsLimits_34 rfl rfl (Nat.le_of_ble_eq_true rfl) (Nat.le_of_ble_eq_true rfl) rfl
    · refine zk_aload_n (pc := 16) B dX3_keepsLimits_16 0 rfl rfl ?_
      refine zk_aload_n (pc := 17) B dX3_keepsLimits_17 0 rfl rfl ?_
      refine zk_geti (pc := 18) B kx_3 (gPlan_s hG) 3 (by decide) kf_3_42 rfl dX3_keepsLimits_18 ?_
      refine zk_iconst (v := 1) (pc := 21) B dX3_keepsLimits_21 (by decide) ?_
      refine zk_isub (pc := 22) B dX3_keepsLimits_22 ?_
      refine zk_cpi (pc := 23) (k' := 0) (n' := 0) B rfl rfl (Nat.le_of_ble_eq_true rfl) (Nat.le_of_ble_eq_true rfl) (fun b hb => zr_V B hR kV_yX3_doneAt km_3_132 kx_3 (gPlan_s hG) [.int ((M.1 (o + 487) 3) - 1)] rfl rfl (Nat.le_of_ble_eq_true rfl) dX3_keepsLimits_23 (m_Plan_doneAt hX hG ((M.1 (o + 487) 3) - 1) M b hb) ⟨Nat.le_of_ble_eq_true rfl, Nat.le_of_ble_eq_true rfl⟩ ⟨Nat.le_of_ble_eq_true rfl, Nat.le_of_ble_eq_true rfl⟩) (fun x1 _ => ?_)
      refine zk_aload_n (pc := 26) B dX3_keepsLimits_26 1 rfl rfl ?_
      refine zk_geti (pc := 27) B kx_6 (gTaxi_s hr0) 4 (by decide) kf_3_135 rfl dX3_keepsLimits_27 ?_
      refine zk_icmp_le (tgt := 35) (pc := 30) B dX3_keepsLimits_30 (by decide) (fun _ => ?_) (fun _ => ?_)
      · refine zk_aload_n (pc := 35) B dX3_keepsLimits_35 0 rfl rfl ?_
        refine zk_getr (pc := 36) B kx_3 (gPlan_s hG) 2 (by decide) kf_3_34 rfl (gPlan_f2 hG) dX3_keepsLimits_36 ?_
        refine zk_aload_n (pc := 39) B dX3_keepsLimits_39 1 rfl rfl ?_
        refine zk_cpi (pc := 40) (k' := 0) (n' := 0) B rfl rfl (Nat.le_of_ble_eq_true rfl) (Nat.le_of_ble_eq_true rfl) (fun b hb => zr_V B hR kV_yX0_personsAboard km_3_138 kx_0 (gDesk_s (gPlan_t2 hG)) [.ref r0] rfl rfl (Nat.le_of_ble_eq_true rfl) dX3_keepsLimits_40 (m_Desk_personsAboard hX (gPlan_t2 hG) hr0 M b hb) ⟨Nat.le_of_ble_eq_true rfl, Nat.le_of_ble_eq_true rfl⟩ ⟨Nat.le_of_ble_eq_true rfl, Nat.le_of_ble_eq_true rfl⟩) (fun x2 _ => ?_)
        refine zk_istore_n (loc' := [(2, .int x2), (0, .ref (o + 487)), (1, .ref r0)]) (pc := 43) B dX3_keepsLimits_43 rfl (by decide) rfl ?_
        refine zk_aload_n (pc := 44) B dX3_keepsLimits_44 2 rfl rfl ?_
        refine zk_geti (pc := 45) B kx_6 (gTaxi_s hr0) 5 (by decide) kf_3_142 rfl dX3_keepsLimits_45 ?_
        refine zk_li (fun x3 => ?_)
        refine zk_istore_n (loc' := [(3, .int x3), (2, .int x2), (0, .ref (o + 487)), (1, .ref r0)]) (pc := 48) B dX3_keepsLimits_48 rfl (by decide) rfl ?_
        refine zk_aload_n (pc := 49) B dX3_keepsLimits_49 3 rfl rfl ?_
        refine zk_geti (pc := 50) B kx_6 (gTaxi_s hr0) 2 (by decide) kf_3_74 rfl dX3_keepsLimits_50 ?_
        refine zk_li (fun x4 => ?_)
        refine zk_istore (loc' := [(4, .int x4), (3, .int x3), (2, .int x2), (0, .ref (o + 487)), (1, .ref r0)]) (pc := 53) B dX3_keepsLimits_53 (by decide) rfl ?_
        refine zk_iconst (v := 0) (pc := 55) B dX3_keepsLimits_55 (by decide) ?_
        refine zk_istore (loc' := [(5, .int 0), (4, .int x4), (3, .int x3), (2, .int x2), (0, .ref (o + 487)), (1, .ref r0)]) (pc := 56) B dX3_keepsLimits_56 (by decide) rfl ?_
        refine zk_sub [4, 5, 3, 2, 1, 0] rfl ?_
        exact L58 10000 r0 hr0 x2 x3 x4 0 M
      · refine zk_iconst (v := 0) (pc := 33) B dX3_keepsLimits_33 (by decide) ?_
        exact zk_iret (pc := 34) B dX3_keepsLimits_34 rfl rfl (Nat.le_of_ble_eq_true rfl) (Nat.le_of_ble_eq_true rfl) rfl
  · refine zk_iconst (v := 1) (pc := 7) B dX3_keepsLimits_7 (by decide) ?_
    exact zk_iret (pc := 8) B dX3_keepsLimits_8 rfl rfl (Nat.le_of_ble_eq_true rfl) (Nat.le_of_ble_eq_true rfl) rfl
set_option maxHeartbeats 4000000 in
set_option maxRecDepth 100000 in
theorem m_Insertion_keep {X : z_X} (hX : z_ok X) {G : z_Gr} {o : Nat} (hG : g_Sys G o) (p0 : Int32) (p1 : Int32) (p2 : Int32) (M : z_Mem) (b : z_Mem) (h : F_Insertion_keep o p0 p1 p2 M = some b) : z_Ct X yX2_keep cX2_keep 4 none ({ frames := 2, cells := 0, slots := 0, locals := 42 } : Room) [.ref (o + 494), .int p0, .int p1, .int p2] G M (fun o9 G9 M9 => G9 = G ∧ (o9, M9) = z_cvm b) := by
  refine z_enter hX (by decide) (Nat.le_of_ble_eq_true rfl) h (fun F B hR => ?_)
  show z_K X F 4 0 0 G z_cvm b 0 0 0 [(0, .ref (o + 494)), (1, .int p0), (2, .int p1), (3, .int p2)] [] M (F_Insertion_keep o p0 p1 p2 M)
  unfold F_Insertion_keep
  refine zk_aload_n (pc := 0) B dX2_keep_0 0 rfl rfl ?_
  refine zk_iload_n (pc := 1) B dX2_keep_1 1 rfl rfl ?_
  refine zk_puti (pc := 2) B kx_2 (gInsertion_s hG) 0 (by decide) kf_2_53 rfl rfl rfl rfl dX2_keep_2 ?_
  refine zk_lm (fun M1 => ?_)
  refine zk_aload_n (pc := 5) B dX2_keep_5 0 rfl rfl ?_
  refine zk_aload_n (pc := 6) B dX2_keep_6 0 rfl rfl ?_
  refine zk_getr (pc := 7) B kx_2 (gInsertion_s hG) 5 (by decide) kf_2_9 rfl (gInsertion_f5 hG) dX2_keep_7 ?_
  refine zk_iload_n (pc := 10) B dX2_keep_10 2 rfl rfl ?_
  refine zk_cpi (pc := 11) (k' := 0) (n' := 0) B rfl rfl (Nat.le_of_ble_eq_true rfl) (Nat.le_of_ble_eq_true rfl) (fun b hb => zr_V B hR kV_yX3_arrivalAt km_2_37 kx_3 (gPlan_s hG) [.int p1] rfl rfl (Nat.le_of_ble_eq_true rfl) dX2_keep_11 (m_Plan_arrivalAt hX hG p1 M1 b hb) ⟨Nat.le_of_ble_eq_true rfl, Nat.le_of_ble_eq_true rfl⟩ ⟨Nat.le_of_ble_eq_true rfl, Nat.le_of_ble_eq_true rfl⟩) (fun x2 _ => ?_)
  refine zk_puti (pc := 14) B kx_2 (gInsertion_s hG) 1 (by decide) kf_2_56 rfl rfl rfl rfl dX2_keep_14 ?_
  refine zk_lm (fun M3 => ?_)
  refine zk_aload_n (pc := 17) B dX2_keep_17 0 rfl rfl ?_
  refine zk_aload_n (pc := 18) B dX2_keep_18 0 rfl rfl ?_
  refine zk_getr (pc := 19) B kx_2 (gInsertion_s hG) 5 (by decide) kf_2_9 rfl (gInsertion_f5 hG) dX2_keep_19 ?_
  refine zk_iload_n (pc := 22) B dX2_keep_22 3 rfl rfl ?_
  refine zk_cpi (pc := 23) (k' := 0) (n' := 0) B rfl rfl (Nat.le_of_ble_eq_true rfl) (Nat.le_of_ble_eq_true rfl) (fun b hb => zr_V B hR kV_yX3_arrivalAt km_2_37 kx_3 (gPlan_s hG) [.int p2] rfl rfl (Nat.le_of_ble_eq_true rfl) dX2_keep_23 (m_Plan_arrivalAt hX hG p2 M3 b hb) ⟨Nat.le_of_ble_eq_true rfl, Nat.le_of_ble_eq_true rfl⟩ ⟨Nat.le_of_ble_eq_true rfl, Nat.le_of_ble_eq_true rfl⟩) (fun x4 _ => ?_)
  refine zk_puti (pc := 26) B kx_2 (gInsertion_s hG) 2 (by decide) kf_2_59 rfl rfl rfl rfl dX2_keep_26 ?_
  refine zk_lm (fun M5 => ?_)
  refine zk_aload_n (pc := 29) B dX2_keep_29 0 rfl rfl ?_
  refine zk_iload_n (pc := 30) B dX2_keep_30 2 rfl rfl ?_
  refine zk_puti (pc := 31) B kx_2 (gInsertion_s hG) 3 (by decide) kf_2_62 rfl rfl rfl rfl dX2_keep_31 ?_
  refine zk_lm (fun M6 => ?_)
  refine zk_aload_n (pc := 34) B dX2_keep_34 0 rfl rfl ?_
  refine zk_iload_n (pc := 35) B dX2_keep_35 3 rfl rfl ?_
  refine zk_puti (pc := 36) B kx_2 (gInsertion_s hG) 4 (by decide) kf_2_65 rfl rfl rfl rfl dX2_keep_36 ?_
  refine zk_lm (fun M7 => ?_)
  exact zk_vret (pc := 39) B dX2_keep_39 rfl (Nat.le_of_ble_eq_true rfl) (Nat.le_of_ble_eq_true rfl) rfl
set_option maxHeartbeats 4000000 in
set_option maxRecDepth 100000 in
theorem m_Insertion_findBest {X : z_X} (hX : z_ok X) {G : z_Gr} {o : Nat} (hG : g_Sys G o) {r0 : Nat} (hr0 : g_Taxi G r0) (p1 : Int32) (M : z_Mem) (b : Int32 × z_Mem) (h : F_Insertion_findBest o r0 p1 M = some b) : z_Ct X yX2_findBest cX2_findBest 11 (some .boolean) ({ frames := 4, cells := 0, slots := 0, locals := 109 } : Room) [.ref (o + 494), .ref r0, .int p1] G M (fun o9 G9 M9 => G9 = G ∧ (o9, M9) = z_cim b) := by
  refine z_enter hX (by decide) (Nat.le_of_ble_eq_true rfl) h (fun F B hR => ?_)
  have L54 : ∀ (nf54 : Nat), ∀ (u1 : Nat) (hu1 : g_Taxi G u1) (v2 : Int32) (v3 : Int32) (v4 : Int32) (v6 : Int32) (v7 : Int32) (M : z_Mem), z_K X F 11 0 0 G z_cim b 0 0 54 [(0, .ref (o + 494)), (1, .ref u1), (2, .int v2), (3, .int v3), (4, .int v4), (6, .int v6), (7, .int v7)] [] M (F_Insertion_findBest_L54 o nf54 u1 v2 v3 v4 v6 v7 M) := by
    intro nf54
    induction nf54 with
    | zero => intro u1 hu1 v2 v3 v4 v6 v7 M; exact zk_none
    | succ nf54 ih54 =>
      have L66 : ∀ (nf66 : Nat), ∀ (u1 : Nat) (hu1 : g_Taxi G u1) (v2 : Int32) (v3 : Int32) (v4 : Int32) (v6 : Int32) (v7 : Int32) (v8 : Int32) (M : z_Mem), z_K X F 11 0 0 G z_cim b 0 0 66 [(0, .ref (o + 494)), (1, .ref u1), (2, .int v2), (3, .int v3), (4, .int v4), (6, .int v6), (7, .int v7), (8, .int v8)] [] M (F_Insertion_findBest_L66 o (F_Insertion_findBest_L54 o nf54) nf66 u1 v2 v3 v4 v6 v7 v8 M) := by
        intro nf66
        induction nf66 with
        | zero => intro u1 hu1 v2 v3 v4 v6 v7 v8 M; exact zk_none
        | succ nf66 ih66 =>
          have J125 : ∀ (u1 : Nat) (hu1 : g_Taxi G u1) (v2 : Int32) (v3 : Int32) (v4 : Int32) (v6 : Int32) (v7 : Int32) (v8 : Int32) (v9 : Int32) (s0 : Int32) (M : z_Mem), z_K X F 11 0 0 G z_cim b 0 0 125 [(0, .ref (o + 494)), (1, .ref u1), (2, .int v2), (3, .int v3), (4, .int v4), (6, .int v6), (7, .int v7), (8, .int v8), (9, .int v9)] [.int s0] M (F_Insertion_findBest_J125 o (F_Insertion_findBest_L54 o nf54) (F_Insertion_findBest_L66 o (F_Insertion_findBest_L54 o nf54) nf66) u1 v2 v3 v4 v6 v7 v8 v9 s0 M) := by
            intro u1 hu1 v2 v3 v4 v6 v7 v8 v9 s0 M
            unfold F_Insertion_findBest_J125
            refine zk_istore (loc' := [(10, .int s0), (0, .ref (o + 494)), (1, .ref u1), (2, .int v2), (3, .int v3), (4, .int v4), (6, .int v6), (7, .int v7), (8, .int v8), (9, .int v9)]) (pc := 125) B dX2_findBest_125 (by decide) rfl ?_
            refine zk_iload (pc := 127) B dX2_findBest_127 0 rfl ?_
            refine zk_if_eq (tgt := 156) (pc := 129) B dX2_findBest_129 (by decide) (fun _ => ?_) (fun _ => ?_)
            · refine zk_iinc (y := 1) (lf := fun x11 => [(8, .int x11), (10, .int s0), (0, .ref (o + 494)), (1, .ref u1), (2, .int v2), (3, .int v3), (4, .int v4), (6, .int v6), (7, .int v7), (9, .int v9)]) (pc := 156) B dX2_findBest_156 8 rfl (by decide) (by decide) (fun _ => rfl) (fun x11 => ?_)
              refine zk_goto (tgt := 66) (pc := 159) B dX2_findBest_159 (by decide) ?_
              refine zk_sub [2, 3, 4, 5, 6, 7, 8, 0] rfl ?_
              exact ih66 u1 hu1 v2 v3 v4 v6 v7 x11 M
            · refine zk_aload_n (pc := 132) B dX2_findBest_132 1 rfl rfl ?_
              refine zk_getr (pc := 133) B kx_2 (gInsertion_s hG) 5 (by decide) kf_2_9 rfl (gInsertion_f5 hG) dX2_findBest_133 ?_
              refine zk_aload_n (pc := 136) B dX2_findBest_136 2 rfl rfl ?_
              refine zk_cim (pc := 137) (k' := 0) (n' := 0) B rfl rfl (Nat.le_of_ble_eq_true rfl) (Nat.le_of_ble_eq_true rfl) (fun b hb => zr_V B hR kV_yX3_keepsLimits km_2_45 kx_3 (gPlan_s hG) [.ref u1] rfl rfl (Nat.le_of_ble_eq_true rfl) dX2_findBest_137 (m_Plan_keepsLimits hX hG hu1 M b hb) ⟨Nat.le_of_ble_eq_true rfl, Nat.le_of_ble_eq_true rfl⟩ ⟨Nat.le_of_ble_eq_true rfl, Nat.le_of_ble_eq_true rfl⟩) (fun x13 M12 => ?_)
              refine zk_if_eq (tgt := 156) (pc := 140) B dX2_findBest_140 (by decide) (fun _ => ?_) (fun _ => ?_)
              · refine zk_iinc (y := 1) (lf := fun x14 => [(8, .int x14), (10, .int s0), (0, .ref (o + 494)), (1, .ref u1), (2, .int v2), (3, .int v3), (4, .int v4), (6, .int v6), (7, .int v7), (9, .int v9)]) (pc := 156) B dX2_findBest_156 8 rfl (by decide) (by decide) (fun _ => rfl) (fun x14 => ?_)
                refine zk_goto (tgt := 66) (pc := 159) B dX2_findBest_159 (by decide) ?_
                refine zk_sub [2, 3, 4, 5, 6, 7, 8, 0] rfl ?_
                exact ih66 u1 hu1 v2 v3 v4 v6 v7 x14 M12
              · refine zk_iconst (v := 1) (pc := 143) B dX2_findBest_143 (by decide) ?_
                refine zk_istore (loc' := [(6, .int 1), (10, .int s0), (0, .ref (o + 494)), (1, .ref u1), (2, .int v2), (3, .int v3), (4, .int v4), (7, .int v7), (8, .int v8), (9, .int v9)]) (pc := 144) B dX2_findBest_144 (by decide) rfl ?_
                refine zk_aload_n (pc := 146) B dX2_findBest_146 2 rfl rfl ?_
                refine zk_iload (pc := 147) B dX2_findBest_147 9 rfl ?_
                refine zk_iload (pc := 149) B dX2_findBest_149 7 rfl ?_
                refine zk_iload (pc := 151) B dX2_findBest_151 8 rfl ?_
                refine zk_cvm (pc := 153) (k' := 0) (n' := 0) B rfl rfl (Nat.le_of_ble_eq_true rfl) (Nat.le_of_ble_eq_true rfl) (fun b hb => zr_V B hR kV_yX2_keep km_2_49 kx_2 (gInsertion_s hG) [.int v9, .int v7, .int v8] rfl rfl (Nat.le_of_ble_eq_true rfl) dX2_findBest_153 (m_Insertion_keep hX hG v9 v7 v8 M12 b hb) ⟨Nat.le_of_ble_eq_true rfl, Nat.le_of_ble_eq_true rfl⟩ ⟨Nat.le_of_ble_eq_true rfl, Nat.le_of_ble_eq_true rfl⟩) (fun M15 => ?_)
                refine zk_iinc (y := 1) (lf := fun x16 => [(8, .int x16), (6, .int 1), (10, .int s0), (0, .ref (o + 494)), (1, .ref u1), (2, .int v2), (3, .int v3), (4, .int v4), (7, .int v7), (9, .int v9)]) (pc := 156) B dX2_findBest_156 8 rfl (by decide) (by decide) (fun _ => rfl) (fun x16 => ?_)
                refine zk_goto (tgt := 66) (pc := 159) B dX2_findBest_159 (by decide) ?_
                refine zk_sub [3, 4, 5, 6, 7, 1, 8, 0] rfl ?_
                exact ih66 u1 hu1 v2 v3 v4 1 v7 x16 M15
          have J120 : ∀ (u1 : Nat) (hu1 : g_Taxi G u1) (v2 : Int32) (v3 : Int32) (v4 : Int32) (v6 : Int32) (v7 : Int32) (v8 : Int32) (v9 : Int32) (M : z_Mem), z_K X F 11 0 0 G z_cim b 0 0 120 [(0, .ref (o + 494)), (1, .ref u1), (2, .int v2), (3, .int v3), (4, .int v4), (6, .int v6), (7, .int v7), (8, .int v8), (9, .int v9)] [] M (F_Insertion_findBest_J120 o (F_Insertion_findBest_L54 o nf54) (F_Insertion_findBest_L66 o (F_Insertion_findBest_L54 o nf54) nf66) u1 v2 v3 v4 v6 v7 v8 v9 M) := by
            intro u1 hu1 v2 v3 v4 v6 v7 v8 v9 M
            unfold F_Insertion_findBest_J120
            refine zk_iconst (v := 1) (pc := 120) B dX2_findBest_120 (by decide) ?_
            refine zk_goto (tgt := 125) (pc := 121) B dX2_findBest_121 (by decide) ?_
            exact J125 u1 hu1 v2 v3 v4 v6 v7 v8 v9 1 M
          intro u1 hu1 v2 v3 v4 v6 v7 v8 M
          show z_K X F 11 0 0 G z_cim b 0 0 66 [(0, .ref (o + 494)), (1, .ref u1), (2, .int v2), (3, .int v3), (4, .int v4), (6, .int v6), (7, .int v7), (8, .int v8)] [] M (F_Insertion_findBest_B66 o (F_Insertion_findBest_L54 o nf54) (F_Insertion_findBest_L66 o (F_Insertion_findBest_L54 o nf54) nf66) u1 v2 v3 v4 v6 v7 v8 M)
          unfold F_Insertion_findBest_B66
          refine zk_iload (pc := 66) B dX2_findBest_66 7 rfl ?_
          refine zk_iload_n (pc := 68) B dX2_findBest_68 3 rfl rfl ?_
          refine zk_icmp_gt (tgt := 162) (pc := 69) B dX2_findBest_69 (by decide) (fun _ => ?_) (fun _ => ?_)
          · refine zk_iinc (y := 1) (lf := fun x6 => [(7, .int x6), (0, .ref (o + 494)), (1, .ref u1), (2, .int v2), (3, .int v3), (4, .int v4), (6, .int v6), (8, .int v8)]) (pc := 162) B dX2_findBest_162 6 rfl (by decide) (by decide) (fun _ => rfl) (fun x6 => ?_)
            refine zk_goto (tgt := 54) (pc := 165) B dX2_findBest_165 (by decide) ?_
            refine zk_sub [1, 2, 3, 4, 5, 6, 0] rfl ?_
            exact ih54 u1 hu1 v2 v3 v4 v6 x6 M
          · refine zk_aload_n (pc := 72) B dX2_findBest_72 0 rfl rfl ?_
            refine zk_getr (pc := 73) B kx_2 (gInsertion_s hG) 5 (by decide) kf_2_9 rfl (gInsertion_f5 hG) dX2_findBest_73 ?_
            refine zk_aload_n (pc := 76) B dX2_findBest_76 1 rfl rfl ?_
            refine zk_iload_n (pc := 77) B dX2_findBest_77 2 rfl rfl ?_
            refine zk_iload (pc := 78) B dX2_findBest_78 6 rfl ?_
            refine zk_iload (pc := 80) B dX2_findBest_80 7 rfl ?_
            refine zk_cvm (pc := 82) (k' := 0) (n' := 0) B rfl rfl (Nat.le_of_ble_eq_true rfl) (Nat.le_of_ble_eq_true rfl) (fun b hb => zr_V B hR kV_yX3_planInsertion km_2_33 kx_3 (gPlan_s hG) [.ref u1, .int v2, .int v7, .int v8] rfl rfl (Nat.le_of_ble_eq_true rfl) dX2_findBest_82 (m_Plan_planInsertion hX hG hu1 v2 v7 v8 M b hb) ⟨Nat.le_of_ble_eq_true rfl, Nat.le_of_ble_eq_true rfl⟩ ⟨Nat.le_of_ble_eq_true rfl, Nat.le_of_ble_eq_true rfl⟩) (fun M7 => ?_)
            refine zk_aload_n (pc := 85) B dX2_findBest_85 0 rfl rfl ?_
            refine zk_getr (pc := 86) B kx_2 (gInsertion_s hG) 5 (by decide) kf_2_9 rfl (gInsertion_f5 hG) dX2_findBest_86 ?_
            refine zk_geti (pc := 89) B kx_3 (gPlan_s hG) 0 (by decide) kf_2_27 rfl dX2_findBest_89 ?_
            refine zk_iload (pc := 92) B dX2_findBest_92 4 rfl ?_
            refine zk_isub (pc := 94) B dX2_findBest_94 ?_
            refine zk_li (fun x8 => ?_)
            refine zk_istore (loc' := [(9, .int x8), (0, .ref (o + 494)), (1, .ref u1), (2, .int v2), (3, .int v3), (4, .int v4), (6, .int v6), (7, .int v7), (8, .int v8)]) (pc := 95) B dX2_findBest_95 (by decide) rfl ?_
            refine zk_iload (pc := 97) B dX2_findBest_97 6 rfl ?_
            refine zk_if_eq (tgt := 120) (pc := 99) B dX2_findBest_99 (by decide) (fun _ => ?_) (fun _ => ?_)
            · refine zk_sub [1, 2, 3, 4, 5, 6, 7, 8, 0] rfl ?_
              exact J120 u1 hu1 v2 v3 v4 v6 v7 v8 x8 M7
            · refine zk_aload_n (pc := 102) B dX2_findBest_102 1 rfl rfl ?_
              refine zk_iload (pc := 103) B dX2_findBest_103 0 rfl ?_
              refine zk_aload_n (pc := 105) B dX2_findBest_105 1 rfl rfl ?_
              refine zk_getr (pc := 106) B kx_2 (gInsertion_s hG) 5 (by decide) kf_2_9 rfl (gInsertion_f5 hG) dX2_findBest_106 ?_
              refine zk_iload (pc := 109) B dX2_findBest_109 7 rfl ?_
              refine zk_cpi (pc := 111) (k' := 0) (n' := 0) B rfl rfl (Nat.le_of_ble_eq_true rfl) (Nat.le_of_ble_eq_true rfl) (fun b hb => zr_V B hR kV_yX3_arrivalAt km_2_37 kx_3 (gPlan_s hG) [.int v7] rfl rfl (Nat.le_of_ble_eq_true rfl) dX2_findBest_111 (m_Plan_arrivalAt hX hG v7 M7 b hb) ⟨Nat.le_of_ble_eq_true rfl, Nat.le_of_ble_eq_true rfl⟩ ⟨Nat.le_of_ble_eq_true rfl, Nat.le_of_ble_eq_true rfl⟩) (fun x9 _ => ?_)
              refine zk_cpi (pc := 114) (k' := 0) (n' := 0) B rfl rfl (Nat.le_of_ble_eq_true rfl) (Nat.le_of_ble_eq_true rfl) (fun b hb => zr_V B hR kV_yX2_isAsGoodAs km_2_41 kx_2 (gInsertion_s hG) [.int x8, .int x9] rfl rfl (Nat.le_of_ble_eq_true rfl) dX2_findBest_114 (m_Insertion_isAsGoodAs hX hG x8 x9 M7 b hb) ⟨Nat.le_of_ble_eq_true rfl, Nat.le_of_ble_eq_true rfl⟩ ⟨Nat.le_of_ble_eq_true rfl, Nat.le_of_ble_eq_true rfl⟩) (fun x10 _ => ?_)
              refine zk_if_ne (tgt := 124) (pc := 117) B dX2_findBest_117 (by decide) (fun _ => ?_) (fun _ => ?_)
              · refine zk_iconst (v := 0) (pc := 124) B dX2_findBest_124 (by decide) ?_
                refine zk_sub [1, 2, 3, 4, 5, 6, 7, 8, 0] rfl ?_
                exact J125 u1 hu1 v2 v3 v4 v6 v7 v8 x8 0 M7
              · refine zk_sub [1, 2, 3, 4, 5, 6, 7, 8, 0] rfl ?_
                exact J120 u1 hu1 v2 v3 v4 v6 v7 v8 x8 M7
      intro u1 hu1 v2 v3 v4 v6 v7 M
      show z_K X F 11 0 0 G z_cim b 0 0 54 [(0, .ref (o + 494)), (1, .ref u1), (2, .int v2), (3, .int v3), (4, .int v4), (6, .int v6), (7, .int v7)] [] M (F_Insertion_findBest_B54 o (F_Insertion_findBest_L54 o nf54) u1 v2 v3 v4 v6 v7 M)
      unfold F_Insertion_findBest_B54
      refine zk_iload (pc := 54) B dX2_findBest_54 6 rfl ?_
      refine zk_iload_n (pc := 56) B dX2_findBest_56 3 rfl rfl ?_
      refine zk_icmp_ge (tgt := 168) (pc := 57) B dX2_findBest_57 (by decide) (fun _ => ?_) (fun _ => ?_)
      · refine zk_iload (pc := 168) B dX2_findBest_168 5 rfl ?_
        exact zk_chk (fun h4 => zk_iret (pc := 170) B dX2_findBest_170 rfl (z_n01 h4) (Nat.le_of_ble_eq_true rfl) (Nat.le_of_ble_eq_true rfl) rfl)
      · refine zk_iload (pc := 60) B dX2_findBest_60 6 rfl ?_
        refine zk_iconst (v := 1) (pc := 62) B dX2_findBest_62 (by decide) ?_
        refine zk_iadd (pc := 63) B dX2_findBest_63 ?_
        refine zk_li (fun x5 => ?_)
        refine zk_istore (loc' := [(8, .int x5), (0, .ref (o + 494)), (1, .ref u1), (2, .int v2), (3, .int v3), (4, .int v4), (6, .int v6), (7, .int v7)]) (pc := 64) B dX2_findBest_64 (by decide) rfl ?_
        refine zk_sub [1, 2, 3, 4, 5, 6, 7, 0] rfl ?_
        exact L66 10000 u1 hu1 v2 v3 v4 v6 v7 x5 M
  have J45 : ∀ (u1 : Nat) (hu1 : g_Taxi G u1) (v2 : Int32) (v3 : Int32) (v4 : Int32) (s0 : Int32) (M : z_Mem), z_K X F 11 0 0 G z_cim b 0 0 45 [(0, .ref (o + 494)), (1, .ref u1), (2, .int v2), (3, .int v3), (4, .int v4)] [.int s0] M (F_Insertion_findBest_J45 o u1 v2 v3 v4 s0 M) := by
    intro u1 hu1 v2 v3 v4 s0 M
    unfold F_Insertion_findBest_J45
    refine zk_istore (loc' := [(5, .int s0), (0, .ref (o + 494)), (1, .ref u1), (2, .int v2), (3, .int v3), (4, .int v4)]) (pc := 45) B dX2_findBest_45 (by decide) rfl ?_
    refine zk_iconst (v := 0) (pc := 47) B dX2_findBest_47 (by decide) ?_
    refine zk_istore (loc' := [(6, .int 0), (5, .int s0), (0, .ref (o + 494)), (1, .ref u1), (2, .int v2), (3, .int v3), (4, .int v4)]) (pc := 48) B dX2_findBest_48 (by decide) rfl ?_
    refine zk_iload (pc := 50) B dX2_findBest_50 1 rfl ?_
    refine zk_istore (loc' := [(7, .int s0), (6, .int 0), (5, .int s0), (0, .ref (o + 494)), (1, .ref u1), (2, .int v2), (3, .int v3), (4, .int v4)]) (pc := 52) B dX2_findBest_52 (by decide) rfl ?_
    refine zk_sub [3, 4, 5, 6, 7, 1, 0] rfl ?_
    exact L54 10000 u1 hu1 v2 v3 v4 0 s0 M
  show z_K X F 11 0 0 G z_cim b 0 0 0 [(0, .ref (o + 494)), (1, .ref r0), (2, .int p1)] [] M (F_Insertion_findBest o r0 p1 M)
  unfold F_Insertion_findBest
  refine zk_aload_n (pc := 0) B dX2_findBest_0 1 rfl rfl ?_
  refine zk_geti (pc := 1) B kx_6 (gTaxi_s hr0) 7 (by decide) kf_2_15 rfl dX2_findBest_1 ?_
  refine zk_iconst (v := 1) (pc := 4) B dX2_findBest_4 (by decide) ?_
  refine zk_iadd (pc := 5) B dX2_findBest_5 ?_
  refine zk_li (fun x1 => ?_)
  refine zk_istore_n (loc' := [(3, .int x1), (0, .ref (o + 494)), (1, .ref r0), (2, .int p1)]) (pc := 6) B dX2_findBest_6 rfl (by decide) rfl ?_
  refine zk_iload_n (pc := 7) B dX2_findBest_7 0 rfl rfl ?_
  refine zk_bipush (v := 12) (pc := 8) B dX2_findBest_8 (by decide) ?_
  refine zk_icmp_lt (tgt := 15) (pc := 10) B dX2_findBest_10 (by decide) (fun _ => ?_) (fun _ => ?_)
  · refine zk_aload_n (pc := 15) B dX2_findBest_15 1 rfl rfl ?_
    refine zk_getr (pc := 16) B kx_2 (gInsertion_s hG) 5 (by decide) kf_2_9 rfl (gInsertion_f5 hG) dX2_findBest_16 ?_
    refine zk_aload_n (pc := 19) B dX2_findBest_19 2 rfl rfl ?_
    refine zk_cvm (pc := 20) (k' := 0) (n' := 0) B rfl rfl (Nat.le_of_ble_eq_true rfl) (Nat.le_of_ble_eq_true rfl) (fun b hb => zr_V B hR kV_yX3_planRoute km_2_21 kx_3 (gPlan_s hG) [.ref r0] rfl rfl (Nat.le_of_ble_eq_true rfl) dX2_findBest_20 (m_Plan_planRoute hX hG hr0 M b hb) ⟨Nat.le_of_ble_eq_true rfl, Nat.le_of_ble_eq_true rfl⟩ ⟨Nat.le_of_ble_eq_true rfl, Nat.le_of_ble_eq_true rfl⟩) (fun M2 => ?_)
    refine zk_aload_n (pc := 23) B dX2_findBest_23 1 rfl rfl ?_
    refine zk_getr (pc := 24) B kx_2 (gInsertion_s hG) 5 (by decide) kf_2_9 rfl (gInsertion_f5 hG) dX2_findBest_24 ?_
    refine zk_geti (pc := 27) B kx_3 (gPlan_s hG) 0 (by decide) kf_2_27 rfl dX2_findBest_27 ?_
    refine zk_li (fun x3 => ?_)
    refine zk_istore (loc' := [(4, .int x3), (3, .int x1), (0, .ref (o + 494)), (1, .ref r0), (2, .int p1)]) (pc := 30) B dX2_findBest_30 (by decide) rfl ?_
    refine zk_aload_n (pc := 32) B dX2_findBest_32 3 rfl rfl ?_
    refine zk_geti (pc := 33) B kx_6 (gTaxi_s hr0) 6 (by decide) kf_2_30 rfl dX2_findBest_33 ?_
    refine zk_iconst (v := (-1)) (pc := 36) B dX2_findBest_36 (by decide) ?_
    refine zk_icmp_ne (tgt := 44) (pc := 37) B dX2_findBest_37 (by decide) (fun _ => ?_) (fun _ => ?_)
    · refine zk_iconst (v := 1) (pc := 44) B dX2_findBest_44 (by decide) ?_
      refine zk_sub [2, 3, 4, 1, 0] rfl ?_
      exact J45 r0 hr0 p1 x1 x3 1 M2
    · refine zk_iconst (v := 0) (pc := 40) B dX2_findBest_40 (by decide) ?_
      refine zk_goto (tgt := 45) (pc := 41) B dX2_findBest_41 (by decide) ?_
      refine zk_sub [2, 3, 4, 1, 0] rfl ?_
      exact J45 r0 hr0 p1 x1 x3 0 M2
  · refine zk_iconst (v := 0) (pc := 13) B dX2_findBest_13 (by decide) ?_
    exact zk_iret (pc := 14) B dX2_findBest_14 rfl rfl (Nat.le_of_ble_eq_true rfl) (Nat.le_of_ble_eq_true rfl) rfl
set_option maxHeartbeats 4000000 in
set_option maxRecDepth 100000 in
theorem m_Insertion_isBetterThan {X : z_X} (hX : z_ok X) {G : z_Gr} {o : Nat} (hG : g_Sys G o) (p0 : Int32) (p1 : Int32) (M : z_Mem) (b : Int32) (h : F_Insertion_isBetterThan o p0 p1 M = some b) : z_Ct X yX2_isBetterThan cX2_isBetterThan 3 (some .boolean) ({ frames := 0, cells := 0, slots := 0, locals := 0 } : Room) [.ref (o + 494), .int p0, .int p1] G M (fun o9 G9 M9 => G9 = G ∧ (o9, M9) = (z_ci M) b) := by
  refine z_enter hX (by decide) (Nat.le_of_ble_eq_true rfl) h (fun F B hR => ?_)
  have J24 : z_K X F 3 0 0 G (z_ci M) b 0 0 24 [] [] M (F_Insertion_isBetterThan_J24 o M) := by
    unfold F_Insertion_isBetterThan_J24
    refine zk_iconst (v := 1) (pc := 24) B dX2_isBetterThan_24 (by decide) ?_
    refine zk_goto (tgt := 29) (pc := 25) B dX2_isBetterThan_25 (by decide) ?_
    exact zk_iret (pc := 29) B dX2_isBetterThan_29 rfl rfl (Nat.le_of_ble_eq_true rfl) (Nat.le_of_ble_eq_true rfl) rfl
  show z_K X F 3 0 0 G (z_ci M) b 0 0 0 [(0, .ref (o + 494)), (1, .int p0), (2, .int p1)] [] M (F_Insertion_isBetterThan o p0 p1 M)
  unfold F_Insertion_isBetterThan
  refine zk_aload_n (pc := 0) B dX2_isBetterThan_0 0 rfl rfl ?_
  refine zk_geti (pc := 1) B kx_2 (gInsertion_s hG) 0 (by decide) kf_2_53 rfl dX2_isBetterThan_1 ?_
  refine zk_iload_n (pc := 4) B dX2_isBetterThan_4 1 rfl rfl ?_
  refine zk_icmp_lt (tgt := 24) (pc := 5) B dX2_isBetterThan_5 (by decide) (fun _ => ?_) (fun _ => ?_)
  · refine zk_sub [] rfl ?_
    exact J24
  · refine zk_aload_n (pc := 8) B dX2_isBetterThan_8 0 rfl rfl ?_
    refine zk_geti (pc := 9) B kx_2 (gInsertion_s hG) 0 (by decide) kf_2_53 rfl dX2_isBetterThan_9 ?_
    refine zk_iload_n (pc := 12) B dX2_isBetterThan_12 1 rfl rfl ?_
    refine zk_icmp_ne (tgt := 28) (pc := 13) B dX2_isBetterThan_13 (by decide) (fun _ => ?_) (fun _ => ?_)
    · refine zk_iconst (v := 0) (pc := 28) B dX2_isBetterThan_28 (by decide) ?_
      exact zk_iret (pc := 29) B dX2_isBetterThan_29 rfl rfl (Nat.le_of_ble_eq_true rfl) (Nat.le_of_ble_eq_true rfl) rfl
    · refine zk_aload_n (pc := 16) B dX2_isBetterThan_16 0 rfl rfl ?_
      refine zk_geti (pc := 17) B kx_2 (gInsertion_s hG) 1 (by decide) kf_2_56 rfl dX2_isBetterThan_17 ?_
      refine zk_iload_n (pc := 20) B dX2_isBetterThan_20 2 rfl rfl ?_
      refine zk_icmp_ge (tgt := 28) (pc := 21) B dX2_isBetterThan_21 (by decide) (fun _ => ?_) (fun _ => ?_)
      · refine zk_iconst (v := 0) (pc := 28) B dX2_isBetterThan_28 (by decide) ?_
        exact zk_iret (pc := 29) B dX2_isBetterThan_29 rfl rfl (Nat.le_of_ble_eq_true rfl) (Nat.le_of_ble_eq_true rfl) rfl
      · refine zk_sub [] rfl ?_
        exact J24
set_option maxHeartbeats 4000000 in
set_option maxRecDepth 100000 in
theorem m_Plan_wayTo {X : z_X} (hX : z_ok X) {G : z_Gr} {o : Nat} (hG : g_Sys G o) (p0 : Int32) (M : z_Mem) (b : Int32) (h : F_Plan_wayTo o p0 M = some b) : z_Ct X yX3_wayTo cX3_wayTo 2 (some .int) ({ frames := 1, cells := 0, slots := 0, locals := 21 } : Room) [.ref (o + 487), .int p0] G M (fun o9 G9 M9 => G9 = G ∧ (o9, M9) = (z_ci M) b) := by
  refine z_enter hX (by decide) (Nat.le_of_ble_eq_true rfl) h (fun F B hR => ?_)
  show z_K X F 2 0 0 G (z_ci M) b 0 0 0 [(0, .ref (o + 487)), (1, .int p0)] [] M (F_Plan_wayTo o p0 M)
  unfold F_Plan_wayTo
  refine zk_aload_n (pc := 0) B dX3_wayTo_0 0 rfl rfl ?_
  refine zk_iload_n (pc := 1) B dX3_wayTo_1 1 rfl rfl ?_
  refine zk_cpi (pc := 2) (k' := 0) (n' := 0) B rfl rfl (Nat.le_of_ble_eq_true rfl) (Nat.le_of_ble_eq_true rfl) (fun b hb => zr_V B hR kV_yX3_hasPlace km_3_38 kx_3 (gPlan_s hG) [.int p0] rfl rfl (Nat.le_of_ble_eq_true rfl) dX3_wayTo_2 (m_Plan_hasPlace hX hG p0 M b hb) ⟨Nat.le_of_ble_eq_true rfl, Nat.le_of_ble_eq_true rfl⟩ ⟨Nat.le_of_ble_eq_true rfl, Nat.le_of_ble_eq_true rfl⟩) (fun x1 _ => ?_)
  refine zk_if_eq (tgt := 17) (pc := 5) B dX3_wayTo_5 (by decide) (fun _ => ?_) (fun _ => ?_)
  · refine zk_iconst (v := (-1)) (pc := 17) B dX3_wayTo_17 (by decide) ?_
    exact zk_iret (pc := 18) B dX3_wayTo_18 rfl rfl (Nat.le_of_ble_eq_true rfl) (Nat.le_of_ble_eq_true rfl) rfl
  · refine zk_aload_n (pc := 8) B dX3_wayTo_8 0 rfl rfl ?_
    refine zk_getr (pc := 9) B kx_3 (gPlan_s hG) 6 (by decide) kf_3_15 rfl (gPlan_f6 hG) dX3_wayTo_9 ?_
    refine zk_iload_n (pc := 12) B dX3_wayTo_12 1 rfl rfl ?_
    refine zk_iald (pc := 13) B (gPlan_t6 hG) dX3_wayTo_13 ?_
    refine zk_goto (tgt := 18) (pc := 14) B dX3_wayTo_14 (by decide) ?_
    exact zk_iret (pc := 18) B dX3_wayTo_18 rfl rfl (Nat.le_of_ble_eq_true rfl) (Nat.le_of_ble_eq_true rfl) rfl
set_option maxHeartbeats 4000000 in
set_option maxRecDepth 100000 in
theorem m_Plan_leavingAt {X : z_X} (hX : z_ok X) {G : z_Gr} {o : Nat} (hG : g_Sys G o) (p0 : Int32) (M : z_Mem) (b : Int32) (h : F_Plan_leavingAt o p0 M = some b) : z_Ct X yX3_leavingAt cX3_leavingAt 2 (some .int) ({ frames := 1, cells := 0, slots := 0, locals := 21 } : Room) [.ref (o + 487), .int p0] G M (fun o9 G9 M9 => G9 = G ∧ (o9, M9) = (z_ci M) b) := by
  refine z_enter hX (by decide) (Nat.le_of_ble_eq_true rfl) h (fun F B hR => ?_)
  show z_K X F 2 0 0 G (z_ci M) b 0 0 0 [(0, .ref (o + 487)), (1, .int p0)] [] M (F_Plan_leavingAt o p0 M)
  unfold F_Plan_leavingAt
  refine zk_aload_n (pc := 0) B dX3_leavingAt_0 0 rfl rfl ?_
  refine zk_iload_n (pc := 1) B dX3_leavingAt_1 1 rfl rfl ?_
  refine zk_cpi (pc := 2) (k' := 0) (n' := 0) B rfl rfl (Nat.le_of_ble_eq_true rfl) (Nat.le_of_ble_eq_true rfl) (fun b hb => zr_V B hR kV_yX3_hasPlace km_3_38 kx_3 (gPlan_s hG) [.int p0] rfl rfl (Nat.le_of_ble_eq_true rfl) dX3_leavingAt_2 (m_Plan_hasPlace hX hG p0 M b hb) ⟨Nat.le_of_ble_eq_true rfl, Nat.le_of_ble_eq_true rfl⟩ ⟨Nat.le_of_ble_eq_true rfl, Nat.le_of_ble_eq_true rfl⟩) (fun x1 _ => ?_)
  refine zk_if_eq (tgt := 17) (pc := 5) B dX3_leavingAt_5 (by decide) (fun _ => ?_) (fun _ => ?_)
  · refine zk_iconst (v := (-1)) (pc := 17) B dX3_leavingAt_17 (by decide) ?_
    exact zk_iret (pc := 18) B dX3_leavingAt_18 rfl rfl (Nat.le_of_ble_eq_true rfl) (Nat.le_of_ble_eq_true rfl) rfl
  · refine zk_aload_n (pc := 8) B dX3_leavingAt_8 0 rfl rfl ?_
    refine zk_getr (pc := 9) B kx_3 (gPlan_s hG) 7 (by decide) kf_3_18 rfl (gPlan_f7 hG) dX3_leavingAt_9 ?_
    refine zk_iload_n (pc := 12) B dX3_leavingAt_12 1 rfl rfl ?_
    refine zk_iald (pc := 13) B (gPlan_t7 hG) dX3_leavingAt_13 ?_
    refine zk_goto (tgt := 18) (pc := 14) B dX3_leavingAt_14 (by decide) ?_
    exact zk_iret (pc := 18) B dX3_leavingAt_18 rfl rfl (Nat.le_of_ble_eq_true rfl) (Nat.le_of_ble_eq_true rfl) rfl
set_option maxHeartbeats 4000000 in
set_option maxRecDepth 100000 in
theorem m_Ride_begin {X : z_X} (hX : z_ok X) {G : z_Gr} {a : Nat} (ha : g_Ride G a) (p0 : Int32) (p1 : Int32) (p2 : Int32) (p3 : Int32) (M : z_Mem) (b : z_Mem) (h : F_Ride_begin a p0 p1 p2 p3 M = some b) : z_Ct X yX5_begin cX5_begin 5 none ({ frames := 0, cells := 0, slots := 0, locals := 0 } : Room) [.ref a, .int p0, .int p1, .int p2, .int p3] G M (fun o9 G9 M9 => G9 = G ∧ (o9, M9) = z_cvm b) := by
  refine z_enter hX (by decide) (Nat.le_of_ble_eq_true rfl) h (fun F B hR => ?_)
  show z_K X F 5 0 0 G z_cvm b 0 0 0 [(0, .ref a), (1, .int p0), (2, .int p1), (3, .int p2), (4, .int p3)] [] M (F_Ride_begin a p0 p1 p2 p3 M)
  unfold F_Ride_begin
  refine zk_aload_n (pc := 0) B dX5_begin_0 0 rfl rfl ?_
  refine zk_iconst (v := 0) (pc := 1) B dX5_begin_1 (by decide) ?_
  refine zk_puti (pc := 2) B kx_5 (gRide_s ha) 0 (by decide) kf_5_9 rfl rfl rfl rfl dX5_begin_2 ?_
  refine zk_lm (fun M1 => ?_)
  refine zk_aload_n (pc := 5) B dX5_begin_5 0 rfl rfl ?_
  refine zk_iload_n (pc := 6) B dX5_begin_6 1 rfl rfl ?_
  refine zk_puti (pc := 7) B kx_5 (gRide_s ha) 1 (by decide) kf_5_15 rfl rfl rfl rfl dX5_begin_7 ?_
  refine zk_lm (fun M2 => ?_)
  refine zk_aload_n (pc := 10) B dX5_begin_10 0 rfl rfl ?_
  refine zk_iload_n (pc := 11) B dX5_begin_11 2 rfl rfl ?_
  refine zk_puti (pc := 12) B kx_5 (gRide_s ha) 2 (by decide) kf_5_18 rfl rfl rfl rfl dX5_begin_12 ?_
  refine zk_lm (fun M3 => ?_)
  refine zk_aload_n (pc := 15) B dX5_begin_15 0 rfl rfl ?_
  refine zk_iload_n (pc := 16) B dX5_begin_16 3 rfl rfl ?_
  refine zk_puti (pc := 17) B kx_5 (gRide_s ha) 3 (by decide) kf_5_21 rfl rfl rfl rfl dX5_begin_17 ?_
  refine zk_lm (fun M4 => ?_)
  refine zk_aload_n (pc := 20) B dX5_begin_20 0 rfl rfl ?_
  refine zk_iload (pc := 21) B dX5_begin_21 4 rfl ?_
  refine zk_puti (pc := 23) B kx_5 (gRide_s ha) 6 (by decide) kf_5_24 rfl rfl rfl rfl dX5_begin_23 ?_
  refine zk_lm (fun M5 => ?_)
  refine zk_aload_n (pc := 26) B dX5_begin_26 0 rfl rfl ?_
  refine zk_iconst (v := (-1)) (pc := 27) B dX5_begin_27 (by decide) ?_
  refine zk_puti (pc := 28) B kx_5 (gRide_s ha) 9 (by decide) kf_5_27 rfl rfl rfl rfl dX5_begin_28 ?_
  refine zk_lm (fun M6 => ?_)
  refine zk_aload_n (pc := 31) B dX5_begin_31 0 rfl rfl ?_
  refine zk_iconst (v := (-1)) (pc := 32) B dX5_begin_32 (by decide) ?_
  refine zk_puti (pc := 33) B kx_5 (gRide_s ha) 10 (by decide) kf_5_30 rfl rfl rfl rfl dX5_begin_33 ?_
  refine zk_lm (fun M7 => ?_)
  refine zk_aload_n (pc := 36) B dX5_begin_36 0 rfl rfl ?_
  refine zk_iconst (v := (-1)) (pc := 37) B dX5_begin_37 (by decide) ?_
  refine zk_puti (pc := 38) B kx_5 (gRide_s ha) 11 (by decide) kf_5_33 rfl rfl rfl rfl dX5_begin_38 ?_
  refine zk_lm (fun M8 => ?_)
  refine zk_aload_n (pc := 41) B dX5_begin_41 0 rfl rfl ?_
  refine zk_iconst (v := 0) (pc := 42) B dX5_begin_42 (by decide) ?_
  refine zk_puti (pc := 43) B kx_5 (gRide_s ha) 12 (by decide) kf_5_36 rfl rfl rfl rfl dX5_begin_43 ?_
  refine zk_lm (fun M9 => ?_)
  refine zk_aload_n (pc := 46) B dX5_begin_46 0 rfl rfl ?_
  refine zk_iconst (v := 0) (pc := 47) B dX5_begin_47 (by decide) ?_
  refine zk_puti (pc := 48) B kx_5 (gRide_s ha) 13 (by decide) kf_5_39 rfl rfl rfl rfl dX5_begin_48 ?_
  refine zk_lm (fun M10 => ?_)
  refine zk_aload_n (pc := 51) B dX5_begin_51 0 rfl rfl ?_
  refine zk_iconst (v := (-1)) (pc := 52) B dX5_begin_52 (by decide) ?_
  refine zk_puti (pc := 53) B kx_5 (gRide_s ha) 14 (by decide) kf_5_43 rfl rfl rfl rfl dX5_begin_53 ?_
  refine zk_lm (fun M11 => ?_)
  refine zk_aload_n (pc := 56) B dX5_begin_56 0 rfl rfl ?_
  refine zk_iconst (v := (-1)) (pc := 57) B dX5_begin_57 (by decide) ?_
  refine zk_puti (pc := 58) B kx_5 (gRide_s ha) 15 (by decide) kf_5_46 rfl rfl rfl rfl dX5_begin_58 ?_
  refine zk_lm (fun M12 => ?_)
  refine zk_aload_n (pc := 61) B dX5_begin_61 0 rfl rfl ?_
  refine zk_iconst (v := (-1)) (pc := 62) B dX5_begin_62 (by decide) ?_
  refine zk_puti (pc := 63) B kx_5 (gRide_s ha) 16 (by decide) kf_5_49 rfl rfl rfl rfl dX5_begin_63 ?_
  refine zk_lm (fun M13 => ?_)
  refine zk_aload_n (pc := 66) B dX5_begin_66 0 rfl rfl ?_
  refine zk_iconst (v := (-1)) (pc := 67) B dX5_begin_67 (by decide) ?_
  refine zk_puti (pc := 68) B kx_5 (gRide_s ha) 17 (by decide) kf_5_52 rfl rfl rfl rfl dX5_begin_68 ?_
  refine zk_lm (fun M14 => ?_)
  refine zk_aload_n (pc := 71) B dX5_begin_71 0 rfl rfl ?_
  refine zk_iconst (v := (-1)) (pc := 72) B dX5_begin_72 (by decide) ?_
  refine zk_puti (pc := 73) B kx_5 (gRide_s ha) 18 (by decide) kf_5_55 rfl rfl rfl rfl dX5_begin_73 ?_
  refine zk_lm (fun M15 => ?_)
  exact zk_vret (pc := 76) B dX5_begin_76 rfl (Nat.le_of_ble_eq_true rfl) (Nat.le_of_ble_eq_true rfl) rfl
set_option maxHeartbeats 4000000 in
set_option maxRecDepth 100000 in
theorem m_Ride_setDirect {X : z_X} (hX : z_ok X) {G : z_Gr} {a : Nat} (ha : g_Ride G a) (p0 : Int32) (M : z_Mem) (b : z_Mem) (h : F_Ride_setDirect a p0 M = some b) : z_Ct X yX5_setDirect cX5_setDirect 2 none ({ frames := 0, cells := 0, slots := 0, locals := 0 } : Room) [.ref a, .int p0] G M (fun o9 G9 M9 => G9 = G ∧ (o9, M9) = z_cvm b) := by
  refine z_enter hX (by decide) (Nat.le_of_ble_eq_true rfl) h (fun F B hR => ?_)
  have J27 : ∀ (s0 : Int32) (M : z_Mem), z_K X F 2 0 0 G z_cvm b 0 0 27 [] [.int s0, .ref a] M (F_Ride_setDirect_J27 a s0 M) := by
    intro s0 M
    unfold F_Ride_setDirect_J27
    refine zk_puti (pc := 27) B kx_5 (gRide_s ha) 8 (by decide) kf_5_61 rfl rfl rfl rfl dX5_setDirect_27 ?_
    refine zk_lm (fun M2 => ?_)
    exact zk_vret (pc := 30) B dX5_setDirect_30 rfl (Nat.le_of_ble_eq_true rfl) (Nat.le_of_ble_eq_true rfl) rfl
  show z_K X F 2 0 0 G z_cvm b 0 0 0 [(0, .ref a), (1, .int p0)] [] M (F_Ride_setDirect a p0 M)
  unfold F_Ride_setDirect
  refine zk_aload_n (pc := 0) B dX5_setDirect_0 0 rfl rfl ?_
  refine zk_iload_n (pc := 1) B dX5_setDirect_1 1 rfl rfl ?_
  refine zk_puti (pc := 2) B kx_5 (gRide_s ha) 7 (by decide) kf_5_58 rfl rfl rfl rfl dX5_setDirect_2 ?_
  refine zk_lm (fun M1 => ?_)
  refine zk_aload_n (pc := 5) B dX5_setDirect_5 0 rfl rfl ?_
  refine zk_iload_n (pc := 6) B dX5_setDirect_6 1 rfl rfl ?_
  refine zk_iconst (v := (-1)) (pc := 7) B dX5_setDirect_7 (by decide) ?_
  refine zk_icmp_ne (tgt := 15) (pc := 8) B dX5_setDirect_8 (by decide) (fun _ => ?_) (fun _ => ?_)
  · refine zk_iload_n (pc := 15) B dX5_setDirect_15 1 rfl rfl ?_
    refine zk_bipush (v := 100) (pc := 16) B dX5_setDirect_16 (by decide) ?_
    refine zk_aload_n (pc := 18) B dX5_setDirect_18 0 rfl rfl ?_
    refine zk_geti (pc := 19) B kx_5 (gRide_s ha) 6 (by decide) kf_5_24 rfl dX5_setDirect_19 ?_
    refine zk_iadd (pc := 22) B dX5_setDirect_22 ?_
    refine zk_imul (pc := 23) B dX5_setDirect_23 ?_
    refine zk_bipush (v := 100) (pc := 24) B dX5_setDirect_24 (by decide) ?_
    refine zk_idiv (pc := 26) B dX5_setDirect_26 (by decide) ?_
    refine zk_sub [] rfl ?_
    exact J27 ((p0 * (100 + (M1.1 a 6))) / 100) M1
  · refine zk_iconst (v := (-1)) (pc := 11) B dX5_setDirect_11 (by decide) ?_
    refine zk_goto (tgt := 27) (pc := 12) B dX5_setDirect_12 (by decide) ?_
    refine zk_sub [] rfl ?_
    exact J27 (-1) M1
set_option maxHeartbeats 4000000 in
set_option maxRecDepth 100000 in
theorem m_Taxi_startShift {X : z_X} (hX : z_ok X) {G : z_Gr} {a : Nat} (ha : g_Taxi G a) (p0 : Int32) (p1 : Int32) (p2 : Int32) (p3 : Int32) (M : z_Mem) (b : z_Mem) (h : F_Taxi_startShift a p0 p1 p2 p3 M = some b) : z_Ct X yX6_startShift cX6_startShift 5 none ({ frames := 0, cells := 0, slots := 0, locals := 0 } : Room) [.ref a, .int p0, .int p1, .int p2, .int p3] G M (fun o9 G9 M9 => G9 = G ∧ (o9, M9) = z_cvm b) := by
  refine z_enter hX (by decide) (Nat.le_of_ble_eq_true rfl) h (fun F B hR => ?_)
  show z_K X F 5 0 0 G z_cvm b 0 0 0 [(0, .ref a), (1, .int p0), (2, .int p1), (3, .int p2), (4, .int p3)] [] M (F_Taxi_startShift a p0 p1 p2 p3 M)
  unfold F_Taxi_startShift
  refine zk_aload_n (pc := 0) B dX6_startShift_0 0 rfl rfl ?_
  refine zk_iload_n (pc := 1) B dX6_startShift_1 1 rfl rfl ?_
  refine zk_puti (pc := 2) B kx_6 (gTaxi_s ha) 0 (by decide) kf_6_18 rfl rfl rfl rfl dX6_startShift_2 ?_
  refine zk_lm (fun M1 => ?_)
  refine zk_aload_n (pc := 5) B dX6_startShift_5 0 rfl rfl ?_
  refine zk_iload_n (pc := 6) B dX6_startShift_6 2 rfl rfl ?_
  refine zk_puti (pc := 7) B kx_6 (gTaxi_s ha) 1 (by decide) kf_6_22 rfl rfl rfl rfl dX6_startShift_7 ?_
  refine zk_lm (fun M2 => ?_)
  refine zk_aload_n (pc := 10) B dX6_startShift_10 0 rfl rfl ?_
  refine zk_iload_n (pc := 11) B dX6_startShift_11 3 rfl rfl ?_
  refine zk_puti (pc := 12) B kx_6 (gTaxi_s ha) 2 (by decide) kf_6_25 rfl rfl rfl rfl dX6_startShift_12 ?_
  refine zk_lm (fun M3 => ?_)
  refine zk_aload_n (pc := 15) B dX6_startShift_15 0 rfl rfl ?_
  refine zk_iload_n (pc := 16) B dX6_startShift_16 3 rfl rfl ?_
  refine zk_puti (pc := 17) B kx_6 (gTaxi_s ha) 3 (by decide) kf_6_28 rfl rfl rfl rfl dX6_startShift_17 ?_
  refine zk_lm (fun M4 => ?_)
  refine zk_aload_n (pc := 20) B dX6_startShift_20 0 rfl rfl ?_
  refine zk_iload (pc := 21) B dX6_startShift_21 4 rfl ?_
  refine zk_puti (pc := 23) B kx_6 (gTaxi_s ha) 4 (by decide) kf_6_31 rfl rfl rfl rfl dX6_startShift_23 ?_
  refine zk_lm (fun M5 => ?_)
  refine zk_aload_n (pc := 26) B dX6_startShift_26 0 rfl rfl ?_
  refine zk_iconst (v := 0) (pc := 27) B dX6_startShift_27 (by decide) ?_
  refine zk_puti (pc := 28) B kx_6 (gTaxi_s ha) 5 (by decide) kf_6_34 rfl rfl rfl rfl dX6_startShift_28 ?_
  refine zk_lm (fun M6 => ?_)
  refine zk_aload_n (pc := 31) B dX6_startShift_31 0 rfl rfl ?_
  refine zk_iconst (v := (-1)) (pc := 32) B dX6_startShift_32 (by decide) ?_
  refine zk_puti (pc := 33) B kx_6 (gTaxi_s ha) 6 (by decide) kf_6_37 rfl rfl rfl rfl dX6_startShift_33 ?_
  refine zk_lm (fun M7 => ?_)
  refine zk_aload_n (pc := 36) B dX6_startShift_36 0 rfl rfl ?_
  refine zk_iconst (v := 0) (pc := 37) B dX6_startShift_37 (by decide) ?_
  refine zk_puti (pc := 38) B kx_6 (gTaxi_s ha) 7 (by decide) kf_6_40 rfl rfl rfl rfl dX6_startShift_38 ?_
  refine zk_lm (fun M8 => ?_)
  refine zk_aload_n (pc := 41) B dX6_startShift_41 0 rfl rfl ?_
  refine zk_iconst (v := 0) (pc := 42) B dX6_startShift_42 (by decide) ?_
  refine zk_puti (pc := 43) B kx_6 (gTaxi_s ha) 8 (by decide) kf_6_43 rfl rfl rfl rfl dX6_startShift_43 ?_
  refine zk_lm (fun M9 => ?_)
  refine zk_aload_n (pc := 46) B dX6_startShift_46 0 rfl rfl ?_
  refine zk_iconst (v := 0) (pc := 47) B dX6_startShift_47 (by decide) ?_
  refine zk_puti (pc := 48) B kx_6 (gTaxi_s ha) 11 (by decide) kf_6_46 rfl rfl rfl rfl dX6_startShift_48 ?_
  refine zk_lm (fun M10 => ?_)
  refine zk_aload_n (pc := 51) B dX6_startShift_51 0 rfl rfl ?_
  refine zk_iconst (v := 0) (pc := 52) B dX6_startShift_52 (by decide) ?_
  refine zk_puti (pc := 53) B kx_6 (gTaxi_s ha) 12 (by decide) kf_6_49 rfl rfl rfl rfl dX6_startShift_53 ?_
  refine zk_lm (fun M11 => ?_)
  refine zk_aload_n (pc := 56) B dX6_startShift_56 0 rfl rfl ?_
  refine zk_iconst (v := 0) (pc := 57) B dX6_startShift_57 (by decide) ?_
  refine zk_puti (pc := 58) B kx_6 (gTaxi_s ha) 13 (by decide) kf_6_52 rfl rfl rfl rfl dX6_startShift_58 ?_
  refine zk_lm (fun M12 => ?_)
  refine zk_aload_n (pc := 61) B dX6_startShift_61 0 rfl rfl ?_
  refine zk_iconst (v := 0) (pc := 62) B dX6_startShift_62 (by decide) ?_
  refine zk_puti (pc := 63) B kx_6 (gTaxi_s ha) 14 (by decide) kf_6_55 rfl rfl rfl rfl dX6_startShift_63 ?_
  refine zk_lm (fun M13 => ?_)
  refine zk_aload_n (pc := 66) B dX6_startShift_66 0 rfl rfl ?_
  refine zk_iconst (v := 0) (pc := 67) B dX6_startShift_67 (by decide) ?_
  refine zk_puti (pc := 68) B kx_6 (gTaxi_s ha) 15 (by decide) kf_6_58 rfl rfl rfl rfl dX6_startShift_68 ?_
  refine zk_lm (fun M14 => ?_)
  refine zk_aload_n (pc := 71) B dX6_startShift_71 0 rfl rfl ?_
  refine zk_iconst (v := 0) (pc := 72) B dX6_startShift_72 (by decide) ?_
  refine zk_puti (pc := 73) B kx_6 (gTaxi_s ha) 16 (by decide) kf_6_61 rfl rfl rfl rfl dX6_startShift_73 ?_
  refine zk_lm (fun M15 => ?_)
  exact zk_vret (pc := 76) B dX6_startShift_76 rfl (Nat.le_of_ble_eq_true rfl) (Nat.le_of_ble_eq_true rfl) rfl
set_option maxHeartbeats 4000000 in
set_option maxRecDepth 100000 in
theorem m_Taxi_insertStop {X : z_X} (hX : z_ok X) {G : z_Gr} {a : Nat} (ha : g_Taxi G a) (p0 : Int32) (p1 : Int32) (M : z_Mem) (b : z_Mem) (h : F_Taxi_insertStop a p0 p1 M = some b) : z_Ct X yX6_insertStop cX6_insertStop 4 none ({ frames := 0, cells := 0, slots := 0, locals := 0 } : Room) [.ref a, .int p0, .int p1] G M (fun o9 G9 M9 => G9 = G ∧ (o9, M9) = z_cvm b) := by
  refine z_enter hX (by decide) (Nat.le_of_ble_eq_true rfl) h (fun F B hR => ?_)
  have L34 : ∀ (nf34 : Nat), ∀ (v1 : Int32) (v2 : Int32) (v3 : Int32) (M : z_Mem), z_K X F 4 0 0 G z_cvm b 0 0 34 [(0, .ref a), (1, .int v1), (2, .int v2), (3, .int v3)] [] M (F_Taxi_insertStop_L34 a nf34 v1 v2 v3 M) := by
    intro nf34
    induction nf34 with
    | zero => intro v1 v2 v3 M; exact zk_none
    | succ nf34 ih34 =>
      intro v1 v2 v3 M
      show z_K X F 4 0 0 G z_cvm b 0 0 34 [(0, .ref a), (1, .int v1), (2, .int v2), (3, .int v3)] [] M (F_Taxi_insertStop_B34 a (F_Taxi_insertStop_L34 a nf34) v1 v2 v3 M)
      unfold F_Taxi_insertStop_B34
      refine zk_iload_n (pc := 34) B dX6_insertStop_34 3 rfl rfl ?_
      refine zk_iload_n (pc := 35) B dX6_insertStop_35 1 rfl rfl ?_
      refine zk_icmp_le (tgt := 59) (pc := 36) B dX6_insertStop_36 (by decide) (fun _ => ?_) (fun _ => ?_)
      · refine zk_aload_n (pc := 59) B dX6_insertStop_59 0 rfl rfl ?_
        refine zk_getr (pc := 60) B kx_6 (gTaxi_s ha) 9 (by decide) kf_6_9 rfl (gTaxi_f9 ha) dX6_insertStop_60 ?_
        refine zk_iload_n (pc := 63) B dX6_insertStop_63 1 rfl rfl ?_
        refine zk_iload_n (pc := 64) B dX6_insertStop_64 2 rfl rfl ?_
        refine zk_iast (pc := 65) B (gTaxi_t9 ha) dX6_insertStop_65 ?_
        refine zk_lm (fun M2 => ?_)
        refine zk_aload_n (pc := 66) B dX6_insertStop_66 0 rfl rfl ?_
        refine zk_dup (pc := 67) B dX6_insertStop_67 rfl ?_
        refine zk_geti (pc := 68) B kx_6 (gTaxi_s ha) 7 (by decide) kf_6_40 rfl dX6_insertStop_68 ?_
        refine zk_iconst (v := 1) (pc := 71) B dX6_insertStop_71 (by decide) ?_
        refine zk_iadd (pc := 72) B dX6_insertStop_72 ?_
        refine zk_puti (pc := 73) B kx_6 (gTaxi_s ha) 7 (by decide) kf_6_40 rfl rfl rfl rfl dX6_insertStop_73 ?_
        refine zk_lm (fun M3 => ?_)
        exact zk_vret (pc := 76) B dX6_insertStop_76 rfl (Nat.le_of_ble_eq_true rfl) (Nat.le_of_ble_eq_true rfl) rfl
      · refine zk_aload_n (pc := 39) B dX6_insertStop_39 0 rfl rfl ?_
        refine zk_getr (pc := 40) B kx_6 (gTaxi_s ha) 9 (by decide) kf_6_9 rfl (gTaxi_f9 ha) dX6_insertStop_40 ?_
        refine zk_iload_n (pc := 43) B dX6_insertStop_43 3 rfl rfl ?_
        refine zk_aload_n (pc := 44) B dX6_insertStop_44 0 rfl rfl ?_
        refine zk_getr (pc := 45) B kx_6 (gTaxi_s ha) 9 (by decide) kf_6_9 rfl (gTaxi_f9 ha) dX6_insertStop_45 ?_
        refine zk_iload_n (pc := 48) B dX6_insertStop_48 3 rfl rfl ?_
        refine zk_iconst (v := 1) (pc := 49) B dX6_insertStop_49 (by decide) ?_
        refine zk_isub (pc := 50) B dX6_insertStop_50 ?_
        refine zk_iald (pc := 51) B (gTaxi_t9 ha) dX6_insertStop_51 ?_
        refine zk_iast (pc := 52) B (gTaxi_t9 ha) dX6_insertStop_52 ?_
        refine zk_lm (fun M4 => ?_)
        refine zk_iinc (y := (-1)) (lf := fun x5 => [(3, .int x5), (0, .ref a), (1, .int v1), (2, .int v2)]) (pc := 53) B dX6_insertStop_53 3 rfl (by decide) (by decide) (fun _ => rfl) (fun x5 => ?_)
        refine zk_goto (tgt := 34) (pc := 56) B dX6_insertStop_56 (by decide) ?_
        refine zk_sub [1, 2, 3, 0] rfl ?_
        exact ih34 v1 v2 x5 M4
  show z_K X F 4 0 0 G z_cvm b 0 0 0 [(0, .ref a), (1, .int p0), (2, .int p1)] [] M (F_Taxi_insertStop a p0 p1 M)
  unfold F_Taxi_insertStop
  refine zk_iload_n (pc := 0) B dX6_insertStop_0 1 rfl rfl ?_
  refine zk_if_lt (tgt := 28) (pc := 1) B dX6_insertStop_1 (by decide) (fun _ => ?_) (fun _ => ?_)
  · exact zk_vret (pc := 28) B dX6_insertStop_28 rfl (Nat.le_of_ble_eq_true rfl) (Nat.le_of_ble_eq_true rfl) rfl
  · refine zk_iload_n (pc := 4) B dX6_insertStop_4 1 rfl rfl ?_
    refine zk_aload_n (pc := 5) B dX6_insertStop_5 0 rfl rfl ?_
    refine zk_geti (pc := 6) B kx_6 (gTaxi_s ha) 7 (by decide) kf_6_40 rfl dX6_insertStop_6 ?_
    refine zk_icmp_gt (tgt := 28) (pc := 9) B dX6_insertStop_9 (by decide) (fun _ => ?_) (fun _ => ?_)
    · exact zk_vret (pc := 28) B dX6_insertStop_28 rfl (Nat.le_of_ble_eq_true rfl) (Nat.le_of_ble_eq_true rfl) rfl
    · refine zk_aload_n (pc := 12) B dX6_insertStop_12 0 rfl rfl ?_
      refine zk_geti (pc := 13) B kx_6 (gTaxi_s ha) 7 (by decide) kf_6_40 rfl dX6_insertStop_13 ?_
      refine zk_if_lt (tgt := 28) (pc := 16) B dX6_insertStop_16 (by decide) (fun _ => ?_) (fun _ => ?_)
      · exact zk_vret (pc := 28) B dX6_insertStop_28 rfl (Nat.le_of_ble_eq_true rfl) (Nat.le_of_ble_eq_true rfl) rfl
      · refine zk_aload_n (pc := 19) B dX6_insertStop_19 0 rfl rfl ?_
        refine zk_geti (pc := 20) B kx_6 (gTaxi_s ha) 7 (by decide) kf_6_40 rfl dX6_insertStop_20 ?_
        refine zk_bipush (v := 12) (pc := 23) B dX6_insertStop_23 (by decide) ?_
        refine zk_icmp_lt (tgt := 29) (pc := 25) B dX6_insertStop_25 (by decide) (fun _ => ?_) (fun _ => ?_)
        · refine zk_aload_n (pc := 29) B dX6_insertStop_29 0 rfl rfl ?_
          refine zk_geti (pc := 30) B kx_6 (gTaxi_s ha) 7 (by decide) kf_6_40 rfl dX6_insertStop_30 ?_
          refine zk_li (fun x1 => ?_)
          refine zk_istore_n (loc' := [(3, .int x1), (0, .ref a), (1, .int p0), (2, .int p1)]) (pc := 33) B dX6_insertStop_33 rfl (by decide) rfl ?_
          refine zk_sub [1, 2, 3, 0] rfl ?_
          exact L34 10000 p0 p1 x1 M
        · exact zk_vret (pc := 28) B dX6_insertStop_28 rfl (Nat.le_of_ble_eq_true rfl) (Nat.le_of_ble_eq_true rfl) rfl
set_option maxHeartbeats 4000000 in
set_option maxRecDepth 100000 in
theorem m_Taxi_removeStop {X : z_X} (hX : z_ok X) {G : z_Gr} {a : Nat} (ha : g_Taxi G a) (p0 : Int32) (M : z_Mem) (b : z_Mem) (h : F_Taxi_removeStop a p0 M = some b) : z_Ct X yX6_removeStop cX6_removeStop 4 none ({ frames := 0, cells := 0, slots := 0, locals := 0 } : Room) [.ref a, .int p0] G M (fun o9 G9 M9 => G9 = G ∧ (o9, M9) = z_cvm b) := by
  refine z_enter hX (by decide) (Nat.le_of_ble_eq_true rfl) h (fun F B hR => ?_)
  have J49 : ∀ (v2 : Int32) (M : z_Mem), z_K X F 4 0 0 G z_cvm b 0 0 49 [(0, .ref a), (2, .int v2)] [] M (F_Taxi_removeStop_J49 a v2 M) := by
    intro v2 M
    unfold F_Taxi_removeStop_J49
    refine zk_aload_n (pc := 49) B dX6_removeStop_49 0 rfl rfl ?_
    refine zk_iload_n (pc := 50) B dX6_removeStop_50 1 rfl rfl ?_
    refine zk_puti (pc := 51) B kx_6 (gTaxi_s ha) 7 (by decide) kf_6_40 rfl rfl rfl rfl dX6_removeStop_51 ?_
    refine zk_lm (fun M5 => ?_)
    exact zk_vret (pc := 54) B dX6_removeStop_54 rfl (Nat.le_of_ble_eq_true rfl) (Nat.le_of_ble_eq_true rfl) rfl
  have L4 : ∀ (nf4 : Nat), ∀ (v1 : Int32) (v2 : Int32) (v3 : Int32) (M : z_Mem), z_K X F 4 0 0 G z_cvm b 0 0 4 [(0, .ref a), (1, .int v1), (2, .int v2), (3, .int v3)] [] M (F_Taxi_removeStop_L4 a nf4 v1 v2 v3 M) := by
    intro nf4
    induction nf4 with
    | zero => intro v1 v2 v3 M; exact zk_none
    | succ nf4 ih4 =>
      intro v1 v2 v3 M
      show z_K X F 4 0 0 G z_cvm b 0 0 4 [(0, .ref a), (1, .int v1), (2, .int v2), (3, .int v3)] [] M (F_Taxi_removeStop_B4 a (F_Taxi_removeStop_L4 a nf4) v1 v2 v3 M)
      unfold F_Taxi_removeStop_B4
      refine zk_iload_n (pc := 4) B dX6_removeStop_4 3 rfl rfl ?_
      refine zk_aload_n (pc := 5) B dX6_removeStop_5 0 rfl rfl ?_
      refine zk_geti (pc := 6) B kx_6 (gTaxi_s ha) 7 (by decide) kf_6_40 rfl dX6_removeStop_6 ?_
      refine zk_icmp_ge (tgt := 49) (pc := 9) B dX6_removeStop_9 (by decide) (fun _ => ?_) (fun _ => ?_)
      · refine zk_sub [0, 2] rfl ?_
        exact J49 v2 M
      · refine zk_iload_n (pc := 12) B dX6_removeStop_12 3 rfl rfl ?_
        refine zk_bipush (v := 12) (pc := 13) B dX6_removeStop_13 (by decide) ?_
        refine zk_icmp_ge (tgt := 49) (pc := 15) B dX6_removeStop_15 (by decide) (fun _ => ?_) (fun _ => ?_)
        · refine zk_sub [0, 2] rfl ?_
          exact J49 v2 M
        · refine zk_aload_n (pc := 18) B dX6_removeStop_18 0 rfl rfl ?_
          refine zk_getr (pc := 19) B kx_6 (gTaxi_s ha) 9 (by decide) kf_6_9 rfl (gTaxi_f9 ha) dX6_removeStop_19 ?_
          refine zk_iload_n (pc := 22) B dX6_removeStop_22 3 rfl rfl ?_
          refine zk_iald (pc := 23) B (gTaxi_t9 ha) dX6_removeStop_23 ?_
          refine zk_iload_n (pc := 24) B dX6_removeStop_24 1 rfl rfl ?_
          refine zk_icmp_eq (tgt := 43) (pc := 25) B dX6_removeStop_25 (by decide) (fun _ => ?_) (fun _ => ?_)
          · refine zk_iinc (y := 1) (lf := fun x1 => [(3, .int x1), (0, .ref a), (1, .int v1), (2, .int v2)]) (pc := 43) B dX6_removeStop_43 3 rfl (by decide) (by decide) (fun _ => rfl) (fun x1 => ?_)
            refine zk_goto (tgt := 4) (pc := 46) B dX6_removeStop_46 (by decide) ?_
            refine zk_sub [1, 2, 3, 0] rfl ?_
            exact ih4 v1 v2 x1 M
          · refine zk_aload_n (pc := 28) B dX6_removeStop_28 0 rfl rfl ?_
            refine zk_getr (pc := 29) B kx_6 (gTaxi_s ha) 9 (by decide) kf_6_9 rfl (gTaxi_f9 ha) dX6_removeStop_29 ?_
            refine zk_iload_n (pc := 32) B dX6_removeStop_32 2 rfl rfl ?_
            refine zk_aload_n (pc := 33) B dX6_removeStop_33 0 rfl rfl ?_
            refine zk_getr (pc := 34) B kx_6 (gTaxi_s ha) 9 (by decide) kf_6_9 rfl (gTaxi_f9 ha) dX6_removeStop_34 ?_
            refine zk_iload_n (pc := 37) B dX6_removeStop_37 3 rfl rfl ?_
            refine zk_iald (pc := 38) B (gTaxi_t9 ha) dX6_removeStop_38 ?_
            refine zk_iast (pc := 39) B (gTaxi_t9 ha) dX6_removeStop_39 ?_
            refine zk_lm (fun M2 => ?_)
            refine zk_iinc (y := 1) (lf := fun x3 => [(2, .int x3), (0, .ref a), (1, .int v1), (3, .int v3)]) (pc := 40) B dX6_removeStop_40 2 rfl (by decide) (by decide) (fun _ => rfl) (fun x3 => ?_)
            refine zk_iinc (y := 1) (lf := fun x4 => [(3, .int x4), (2, .int x3), (0, .ref a), (1, .int v1)]) (pc := 43) B dX6_removeStop_43 3 rfl (by decide) (by decide) (fun _ => rfl) (fun x4 => ?_)
            refine zk_goto (tgt := 4) (pc := 46) B dX6_removeStop_46 (by decide) ?_
            refine zk_sub [2, 3, 1, 0] rfl ?_
            exact ih4 v1 x3 x4 M2
  show z_K X F 4 0 0 G z_cvm b 0 0 0 [(0, .ref a), (1, .int p0)] [] M (F_Taxi_removeStop a p0 M)
  unfold F_Taxi_removeStop
  refine zk_iconst (v := 0) (pc := 0) B dX6_removeStop_0 (by decide) ?_
  refine zk_istore_n (loc' := [(2, .int 0), (0, .ref a), (1, .int p0)]) (pc := 1) B dX6_removeStop_1 rfl (by decide) rfl ?_
  refine zk_iconst (v := 0) (pc := 2) B dX6_removeStop_2 (by decide) ?_
  refine zk_istore_n (loc' := [(3, .int 0), (2, .int 0), (0, .ref a), (1, .int p0)]) (pc := 3) B dX6_removeStop_3 rfl (by decide) rfl ?_
  refine zk_sub [2, 3, 1, 0] rfl ?_
  exact L4 10000 p0 0 0 M
set_option maxHeartbeats 4000000 in
set_option maxRecDepth 100000 in
theorem m_Taxi_takeAboard {X : z_X} (hX : z_ok X) {G : z_Gr} {a : Nat} (ha : g_Taxi G a) (p0 : Int32) (M : z_Mem) (b : z_Mem) (h : F_Taxi_takeAboard a p0 M = some b) : z_Ct X yX6_takeAboard cX6_takeAboard 2 none ({ frames := 0, cells := 0, slots := 0, locals := 0 } : Room) [.ref a, .int p0] G M (fun o9 G9 M9 => G9 = G ∧ (o9, M9) = z_cvm b) := by
  refine z_enter hX (by decide) (Nat.le_of_ble_eq_true rfl) h (fun F B hR => ?_)
  show z_K X F 2 0 0 G z_cvm b 0 0 0 [(0, .ref a), (1, .int p0)] [] M (F_Taxi_takeAboard a p0 M)
  unfold F_Taxi_takeAboard
  refine zk_aload_n (pc := 0) B dX6_takeAboard_0 0 rfl rfl ?_
  refine zk_geti (pc := 1) B kx_6 (gTaxi_s ha) 8 (by decide) kf_6_43 rfl dX6_takeAboard_1 ?_
  refine zk_if_lt (tgt := 36) (pc := 4) B dX6_takeAboard_4 (by decide) (fun _ => ?_) (fun _ => ?_)
  · exact zk_vret (pc := 36) B dX6_takeAboard_36 rfl (Nat.le_of_ble_eq_true rfl) (Nat.le_of_ble_eq_true rfl) rfl
  · refine zk_aload_n (pc := 7) B dX6_takeAboard_7 0 rfl rfl ?_
    refine zk_geti (pc := 8) B kx_6 (gTaxi_s ha) 8 (by decide) kf_6_43 rfl dX6_takeAboard_8 ?_
    refine zk_bipush (v := 6) (pc := 11) B dX6_takeAboard_11 (by decide) ?_
    refine zk_icmp_ge (tgt := 36) (pc := 13) B dX6_takeAboard_13 (by decide) (fun _ => ?_) (fun _ => ?_)
    · exact zk_vret (pc := 36) B dX6_takeAboard_36 rfl (Nat.le_of_ble_eq_true rfl) (Nat.le_of_ble_eq_true rfl) rfl
    · refine zk_aload_n (pc := 16) B dX6_takeAboard_16 0 rfl rfl ?_
      refine zk_getr (pc := 17) B kx_6 (gTaxi_s ha) 10 (by decide) kf_6_15 rfl (gTaxi_f10 ha) dX6_takeAboard_17 ?_
      refine zk_aload_n (pc := 20) B dX6_takeAboard_20 0 rfl rfl ?_
      refine zk_geti (pc := 21) B kx_6 (gTaxi_s ha) 8 (by decide) kf_6_43 rfl dX6_takeAboard_21 ?_
      refine zk_iload_n (pc := 24) B dX6_takeAboard_24 1 rfl rfl ?_
      refine zk_iast (pc := 25) B (gTaxi_t10 ha) dX6_takeAboard_25 ?_
      refine zk_lm (fun M1 => ?_)
      refine zk_aload_n (pc := 26) B dX6_takeAboard_26 0 rfl rfl ?_
      refine zk_dup (pc := 27) B dX6_takeAboard_27 rfl ?_
      refine zk_geti (pc := 28) B kx_6 (gTaxi_s ha) 8 (by decide) kf_6_43 rfl dX6_takeAboard_28 ?_
      refine zk_iconst (v := 1) (pc := 31) B dX6_takeAboard_31 (by decide) ?_
      refine zk_iadd (pc := 32) B dX6_takeAboard_32 ?_
      refine zk_puti (pc := 33) B kx_6 (gTaxi_s ha) 8 (by decide) kf_6_43 rfl rfl rfl rfl dX6_takeAboard_33 ?_
      refine zk_lm (fun M2 => ?_)
      exact zk_vret (pc := 36) B dX6_takeAboard_36 rfl (Nat.le_of_ble_eq_true rfl) (Nat.le_of_ble_eq_true rfl) rfl
set_option maxHeartbeats 4000000 in
set_option maxRecDepth 100000 in
theorem m_Taxi_letOut {X : z_X} (hX : z_ok X) {G : z_Gr} {a : Nat} (ha : g_Taxi G a) (p0 : Int32) (M : z_Mem) (b : z_Mem) (h : F_Taxi_letOut a p0 M = some b) : z_Ct X yX6_letOut cX6_letOut 4 none ({ frames := 0, cells := 0, slots := 0, locals := 0 } : Room) [.ref a, .int p0] G M (fun o9 G9 M9 => G9 = G ∧ (o9, M9) = z_cvm b) := by
  refine z_enter hX (by decide) (Nat.le_of_ble_eq_true rfl) h (fun F B hR => ?_)
  have J49 : ∀ (v2 : Int32) (M : z_Mem), z_K X F 4 0 0 G z_cvm b 0 0 49 [(0, .ref a), (2, .int v2)] [] M (F_Taxi_letOut_J49 a v2 M) := by
    intro v2 M
    unfold F_Taxi_letOut_J49
    refine zk_aload_n (pc := 49) B dX6_letOut_49 0 rfl rfl ?_
    refine zk_iload_n (pc := 50) B dX6_letOut_50 1 rfl rfl ?_
    refine zk_puti (pc := 51) B kx_6 (gTaxi_s ha) 8 (by decide) kf_6_43 rfl rfl rfl rfl dX6_letOut_51 ?_
    refine zk_lm (fun M5 => ?_)
    exact zk_vret (pc := 54) B dX6_letOut_54 rfl (Nat.le_of_ble_eq_true rfl) (Nat.le_of_ble_eq_true rfl) rfl
  have L4 : ∀ (nf4 : Nat), ∀ (v1 : Int32) (v2 : Int32) (v3 : Int32) (M : z_Mem), z_K X F 4 0 0 G z_cvm b 0 0 4 [(0, .ref a), (1, .int v1), (2, .int v2), (3, .int v3)] [] M (F_Taxi_letOut_L4 a nf4 v1 v2 v3 M) := by
    intro nf4
    induction nf4 with
    | zero => intro v1 v2 v3 M; exact zk_none
    | succ nf4 ih4 =>
      intro v1 v2 v3 M
      show z_K X F 4 0 0 G z_cvm b 0 0 4 [(0, .ref a), (1, .int v1), (2, .int v2), (3, .int v3)] [] M (F_Taxi_letOut_B4 a (F_Taxi_letOut_L4 a nf4) v1 v2 v3 M)
      unfold F_Taxi_letOut_B4
      refine zk_iload_n (pc := 4) B dX6_letOut_4 3 rfl rfl ?_
      refine zk_aload_n (pc := 5) B dX6_letOut_5 0 rfl rfl ?_
      refine zk_geti (pc := 6) B kx_6 (gTaxi_s ha) 8 (by decide) kf_6_43 rfl dX6_letOut_6 ?_
      refine zk_icmp_ge (tgt := 49) (pc := 9) B dX6_letOut_9 (by decide) (fun _ => ?_) (fun _ => ?_)
      · refine zk_sub [0, 2] rfl ?_
        exact J49 v2 M
      · refine zk_iload_n (pc := 12) B dX6_letOut_12 3 rfl rfl ?_
        refine zk_bipush (v := 6) (pc := 13) B dX6_letOut_13 (by decide) ?_
        refine zk_icmp_ge (tgt := 49) (pc := 15) B dX6_letOut_15 (by decide) (fun _ => ?_) (fun _ => ?_)
        · refine zk_sub [0, 2] rfl ?_
          exact J49 v2 M
        · refine zk_aload_n (pc := 18) B dX6_letOut_18 0 rfl rfl ?_
          refine zk_getr (pc := 19) B kx_6 (gTaxi_s ha) 10 (by decide) kf_6_15 rfl (gTaxi_f10 ha) dX6_letOut_19 ?_
          refine zk_iload_n (pc := 22) B dX6_letOut_22 3 rfl rfl ?_
          refine zk_iald (pc := 23) B (gTaxi_t10 ha) dX6_letOut_23 ?_
          refine zk_iload_n (pc := 24) B dX6_letOut_24 1 rfl rfl ?_
          refine zk_icmp_eq (tgt := 43) (pc := 25) B dX6_letOut_25 (by decide) (fun _ => ?_) (fun _ => ?_)
          · refine zk_iinc (y := 1) (lf := fun x1 => [(3, .int x1), (0, .ref a), (1, .int v1), (2, .int v2)]) (pc := 43) B dX6_letOut_43 3 rfl (by decide) (by decide) (fun _ => rfl) (fun x1 => ?_)
            refine zk_goto (tgt := 4) (pc := 46) B dX6_letOut_46 (by decide) ?_
            refine zk_sub [1, 2, 3, 0] rfl ?_
            exact ih4 v1 v2 x1 M
          · refine zk_aload_n (pc := 28) B dX6_letOut_28 0 rfl rfl ?_
            refine zk_getr (pc := 29) B kx_6 (gTaxi_s ha) 10 (by decide) kf_6_15 rfl (gTaxi_f10 ha) dX6_letOut_29 ?_
            refine zk_iload_n (pc := 32) B dX6_letOut_32 2 rfl rfl ?_
            refine zk_aload_n (pc := 33) B dX6_letOut_33 0 rfl rfl ?_
            refine zk_getr (pc := 34) B kx_6 (gTaxi_s ha) 10 (by decide) kf_6_15 rfl (gTaxi_f10 ha) dX6_letOut_34 ?_
            refine zk_iload_n (pc := 37) B dX6_letOut_37 3 rfl rfl ?_
            refine zk_iald (pc := 38) B (gTaxi_t10 ha) dX6_letOut_38 ?_
            refine zk_iast (pc := 39) B (gTaxi_t10 ha) dX6_letOut_39 ?_
            refine zk_lm (fun M2 => ?_)
            refine zk_iinc (y := 1) (lf := fun x3 => [(2, .int x3), (0, .ref a), (1, .int v1), (3, .int v3)]) (pc := 40) B dX6_letOut_40 2 rfl (by decide) (by decide) (fun _ => rfl) (fun x3 => ?_)
            refine zk_iinc (y := 1) (lf := fun x4 => [(3, .int x4), (2, .int x3), (0, .ref a), (1, .int v1)]) (pc := 43) B dX6_letOut_43 3 rfl (by decide) (by decide) (fun _ => rfl) (fun x4 => ?_)
            refine zk_goto (tgt := 4) (pc := 46) B dX6_letOut_46 (by decide) ?_
            refine zk_sub [2, 3, 1, 0] rfl ?_
            exact ih4 v1 x3 x4 M2
  show z_K X F 4 0 0 G z_cvm b 0 0 0 [(0, .ref a), (1, .int p0)] [] M (F_Taxi_letOut a p0 M)
  unfold F_Taxi_letOut
  refine zk_iconst (v := 0) (pc := 0) B dX6_letOut_0 (by decide) ?_
  refine zk_istore_n (loc' := [(2, .int 0), (0, .ref a), (1, .int p0)]) (pc := 1) B dX6_letOut_1 rfl (by decide) rfl ?_
  refine zk_iconst (v := 0) (pc := 2) B dX6_letOut_2 (by decide) ?_
  refine zk_istore_n (loc' := [(3, .int 0), (2, .int 0), (0, .ref a), (1, .int p0)]) (pc := 3) B dX6_letOut_3 rfl (by decide) rfl ?_
  refine zk_sub [2, 3, 1, 0] rfl ?_
  exact L4 10000 p0 0 0 M
set_option maxHeartbeats 4000000 in
set_option maxRecDepth 100000 in
theorem m_Tokens_fail {X : z_X} (hX : z_ok X) {G : z_Gr} {o : Nat} (hG : g_Sys G o) (p0 : Int32) (M : z_Mem) (b : z_Mem) (h : F_Tokens_fail o p0 M = some b) : z_Ct X yX8_fail cX8_fail 2 none ({ frames := 0, cells := 0, slots := 0, locals := 0 } : Room) [.ref (o + 499), .int p0] G M (fun o9 G9 M9 => G9 = G ∧ (o9, M9) = z_cvm b) := by
  refine z_enter hX (by decide) (Nat.le_of_ble_eq_true rfl) h (fun F B hR => ?_)
  show z_K X F 2 0 0 G z_cvm b 0 0 0 [(0, .ref (o + 499)), (1, .int p0)] [] M (F_Tokens_fail o p0 M)
  unfold F_Tokens_fail
  refine zk_aload_n (pc := 0) B dX8_fail_0 0 rfl rfl ?_
  refine zk_geti (pc := 1) B kx_8 (gTokens_s hG) 0 (by decide) kf_8_32 rfl dX8_fail_1 ?_
  refine zk_if_ne (tgt := 42) (pc := 4) B dX8_fail_4 (by decide) (fun _ => ?_) (fun _ => ?_)
  · exact zk_vret (pc := 42) B dX8_fail_42 rfl (Nat.le_of_ble_eq_true rfl) (Nat.le_of_ble_eq_true rfl) rfl
  · refine zk_aload_n (pc := 7) B dX8_fail_7 0 rfl rfl ?_
    refine zk_geti (pc := 8) B kx_8 (gTokens_s hG) 8 (by decide) kf_8_56 rfl dX8_fail_8 ?_
    refine zk_if_lt (tgt := 42) (pc := 11) B dX8_fail_11 (by decide) (fun _ => ?_) (fun _ => ?_)
    · exact zk_vret (pc := 42) B dX8_fail_42 rfl (Nat.le_of_ble_eq_true rfl) (Nat.le_of_ble_eq_true rfl) rfl
    · refine zk_aload_n (pc := 14) B dX8_fail_14 0 rfl rfl ?_
      refine zk_geti (pc := 15) B kx_8 (gTokens_s hG) 8 (by decide) kf_8_56 rfl dX8_fail_15 ?_
      refine zk_sipush (v := 800) (pc := 18) B dX8_fail_18 (by decide) ?_
      refine zk_icmp_gt (tgt := 42) (pc := 21) B dX8_fail_21 (by decide) (fun _ => ?_) (fun _ => ?_)
      · exact zk_vret (pc := 42) B dX8_fail_42 rfl (Nat.le_of_ble_eq_true rfl) (Nat.le_of_ble_eq_true rfl) rfl
      · refine zk_aload_n (pc := 24) B dX8_fail_24 0 rfl rfl ?_
        refine zk_iload_n (pc := 25) B dX8_fail_25 1 rfl rfl ?_
        refine zk_puti (pc := 26) B kx_8 (gTokens_s hG) 0 (by decide) kf_8_32 rfl rfl rfl rfl dX8_fail_26 ?_
        refine zk_lm (fun M1 => ?_)
        refine zk_aload_n (pc := 29) B dX8_fail_29 0 rfl rfl ?_
        refine zk_aload_n (pc := 30) B dX8_fail_30 0 rfl rfl ?_
        refine zk_getr (pc := 31) B kx_8 (gTokens_s hG) 4 (by decide) kf_8_19 rfl (gTokens_f4 hG) dX8_fail_31 ?_
        refine zk_aload_n (pc := 34) B dX8_fail_34 0 rfl rfl ?_
        refine zk_geti (pc := 35) B kx_8 (gTokens_s hG) 8 (by decide) kf_8_56 rfl dX8_fail_35 ?_
        refine zk_iald (pc := 38) B (gTokens_t4 hG) dX8_fail_38 ?_
        refine zk_puti (pc := 39) B kx_8 (gTokens_s hG) 1 (by decide) kf_8_9 rfl rfl rfl rfl dX8_fail_39 ?_
        refine zk_lm (fun M2 => ?_)
        exact zk_vret (pc := 42) B dX8_fail_42 rfl (Nat.le_of_ble_eq_true rfl) (Nat.le_of_ble_eq_true rfl) rfl
