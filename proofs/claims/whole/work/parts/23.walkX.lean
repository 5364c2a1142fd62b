/-! ===== walks of the class (by program) ===== -/
set_option maxHeartbeats 4000000 in
set_option maxRecDepth 100000 in
theorem m_Plan_planRoute {X : z_X} (hX : z_ok X) {G : z_Gr} {o : Nat} (hG : g_Sys G o) {r0 : Nat} (hr0 : g_Taxi G r0) (M : z_Mem) (b : z_Mem) (h : F_Plan_planRoute o r0 M = some b) : z_Ct X yX3_planRoute cX3_planRoute 3 none ({ frames := 3, cells := 0, slots := 0, locals := 83 } : Room) [.ref (o + 487), .ref r0] G M (fun o9 G9 M9 => G9 = G ∧ (o9, M9) = z_cvm b) := by
  refine z_enter hX (by decide) (Nat.le_of_ble_eq_true rfl) h (fun F B hR => ?_)
  have L7 : ∀ (nf7 : Nat), ∀ (u1 : Nat) (hu1 : g_Taxi G u1) (v2 : Int32) (M : z_Mem), z_K X F 3 0 0 G z_cvm b 0 0 7 [(0, .ref (o + 487)), (1, .ref u1), (2, .int v2)] [] M (F_Plan_planRoute_L7 o nf7 u1 v2 M) := by
    intro nf7
    induction nf7 with
    | zero => intro u1 hu1 v2 M; exact zk_none
    | succ nf7 ih7 =>
      intro u1 hu1 v2 M
      show z_K X F 3 0 0 G z_cvm b 0 0 7 [(0, .ref (o + 487)), (1, .ref u1), (2, .int v2)] [] M (F_Plan_planRoute_B7 o (F_Plan_planRoute_L7 o nf7) u1 v2 M)
      unfold F_Plan_planRoute_B7
      refine zk_iload_n (pc := 7) B dX3_planRoute_7 2 rfl rfl ?_
      refine zk_aload_n (pc := 8) B dX3_planRoute_8 1 rfl rfl ?_
      refine zk_geti (pc := 9) B kx_6 (gTaxi_s hu1) 7 (by decide) kf_3_46 rfl dX3_planRoute_9 ?_
      refine zk_icmp_ge (tgt := 30) (pc := 12) B dX3_planRoute_12 (by decide) (fun _ => ?_) (fun _ => ?_)
      · refine zk_aload_n (pc := 30) B dX3_planRoute_30 0 rfl rfl ?_
        refine zk_aload_n (pc := 31) B dX3_planRoute_31 1 rfl rfl ?_
        refine zk_cvm (pc := 32) (k' := 0) (n' := 0) B rfl rfl (Nat.le_of_ble_eq_true rfl) (Nat.le_of_ble_eq_true rfl) (fun b hb => zr_V B hR kV_yX3_planTimes km_3_59 kx_3 (gPlan_s hG) [.ref u1] rfl rfl (Nat.le_of_ble_eq_true rfl) dX3_planRoute_32 (m_Plan_planTimes hX hG hu1 M b hb) ⟨Nat.le_of_ble_eq_true rfl, Nat.le_of_ble_eq_true rfl⟩ ⟨Nat.le_of_ble_eq_true rfl, Nat.le_of_ble_eq_true rfl⟩) (fun M2 => ?_)
        exact zk_vret (pc := 35) B dX3_planRoute_35 rfl (Nat.le_of_ble_eq_true rfl) (Nat.le_of_ble_eq_true rfl) rfl
      · refine zk_aload_n (pc := 15) B dX3_planRoute_15 0 rfl rfl ?_
        refine zk_aload_n (pc := 16) B dX3_planRoute_16 1 rfl rfl ?_
        refine zk_iload_n (pc := 17) B dX3_planRoute_17 2 rfl rfl ?_
        refine zk_cpi (pc := 18) (k' := 0) (n' := 0) B rfl rfl (Nat.le_of_ble_eq_true rfl) (Nat.le_of_ble_eq_true rfl) (fun b hb => zr_V B hR kV_yX6_stopAt km_3_51 kx_6 (gTaxi_s hu1) [.int v2] rfl rfl (Nat.le_of_ble_eq_true rfl) dX3_planRoute_18 (m_Taxi_stopAt hX hu1 v2 M b hb) ⟨Nat.le_of_ble_eq_true rfl, Nat.le_of_ble_eq_true rfl⟩ ⟨Nat.le_of_ble_eq_true rfl, Nat.le_of_ble_eq_true rfl⟩) (fun x3 _ => ?_)
        refine zk_cvm (pc := 21) (k' := 0) (n' := 0) B rfl rfl (Nat.le_of_ble_eq_true rfl) (Nat.le_of_ble_eq_true rfl) (fun b hb => zr_V B hR kV_yX3_append km_3_55 kx_3 (gPlan_s hG) [.int x3] rfl rfl (Nat.le_of_ble_eq_true rfl) dX3_planRoute_21 (m_Plan_append hX hG x3 M b hb) ⟨Nat.le_of_ble_eq_true rfl, Nat.le_of_ble_eq_true rfl⟩ ⟨Nat.le_of_ble_eq_true rfl, Nat.le_of_ble_eq_true rfl⟩) (fun M4 => ?_)
        refine zk_iinc (y := 1) (lf := fun x5 => [(2, .int x5), (0, .ref (o + 487)), (1, .ref u1)]) (pc := 24) B dX3_planRoute_24 2 rfl (by decide) (by decide) (fun _ => rfl) (fun x5 => ?_)
        refine zk_goto (tgt := 7) (pc := 27) B dX3_planRoute_27 (by decide) ?_
        refine zk_sub [1, 2, 0] rfl ?_
        exact ih7 u1 hu1 x5 M4
  show z_K X F 3 0 0 G z_cvm b 0 0 0 [(0, .ref (o + 487)), (1, .ref r0)] [] M (F_Plan_planRoute o r0 M)
  unfold F_Plan_planRoute
  refine zk_aload_n (pc := 0) B dX3_planRoute_0 0 rfl rfl ?_
  refine zk_iconst (v := 0) (pc := 1) B dX3_planRoute_1 (by decide) ?_
  refine zk_puti (pc := 2) B kx_3 (gPlan_s hG) 3 (by decide) kf_3_42 rfl rfl rfl rfl dX3_planRoute_2 ?_
  refine zk_lm (fun M1 => ?_)
  refine zk_iconst (v := 0) (pc := 5) B dX3_planRoute_5 (by decide) ?_
  refine zk_istore_n (loc' := [(2, .int 0), (0, .ref (o + 487)), (1, .ref r0)]) (pc := 6) B dX3_planRoute_6 rfl (by decide) rfl ?_
  refine zk_sub [1, 2, 0] rfl ?_
  exact L7 10000 r0 hr0 0 M1
set_option maxHeartbeats 4000000 in
set_option maxRecDepth 100000 in
theorem m_Plan_planInsertion {X : z_X} (hX : z_ok X) {G : z_Gr} {o : Nat} (hG : g_Sys G o) {r0 : Nat} (hr0 : g_Taxi G r0) (p1 : Int32) (p2 : Int32) (p3 : Int32) (M : z_Mem) (b : z_Mem) (h : F_Plan_planInsertion o r0 p1 p2 p3 M = some b) : z_Ct X yX3_planInsertion cX3_planInsertion 7 none ({ frames := 3, cells := 0, slots := 0, locals := 83 } : Room) [.ref (o + 487), .ref r0, .int p1, .int p2, .int p3] G M (fun o9 G9 M9 => G9 = G ∧ (o9, M9) = z_cvm b) := by
  refine z_enter hX (by decide) (Nat.le_of_ble_eq_true rfl) h (fun F B hR => ?_)
  have L11 : ∀ (nf11 : Nat), ∀ (u1 : Nat) (hu1 : g_Taxi G u1) (v2 : Int32) (v3 : Int32) (v4 : Int32) (v5 : Int32) (v6 : Int32) (M : z_Mem), z_K X F 7 0 0 G z_cvm b 0 0 11 [(0, .ref (o + 487)), (1, .ref u1), (2, .int v2), (3, .int v3), (4, .int v4), (5, .int v5), (6, .int v6)] [] M (F_Plan_planInsertion_L11 o nf11 u1 v2 v3 v4 v5 v6 M) := by
    intro nf11
    induction nf11 with
    | zero => intro u1 hu1 v2 v3 v4 v5 v6 M; exact zk_none
    | succ nf11 ih11 =>
      intro u1 hu1 v2 v3 v4 v5 v6 M
      show z_K X F 7 0 0 G z_cvm b 0 0 11 [(0, .ref (o + 487)), (1, .ref u1), (2, .int v2), (3, .int v3), (4, .int v4), (5, .int v5), (6, .int v6)] [] M (F_Plan_planInsertion_B11 o (F_Plan_planInsertion_L11 o nf11) u1 v2 v3 v4 v5 v6 M)
      unfold F_Plan_planInsertion_B11
      refine zk_iload (pc := 11) B dX3_planInsertion_11 6 rfl ?_
      refine zk_aload_n (pc := 13) B dX3_planInsertion_13 1 rfl rfl ?_
      refine zk_geti (pc := 14) B kx_6 (gTaxi_s hu1) 7 (by decide) kf_3_46 rfl dX3_planInsertion_14 ?_
      refine zk_iconst (v := 2) (pc := 17) B dX3_planInsertion_17 (by decide) ?_
      refine zk_iadd (pc := 18) B dX3_planInsertion_18 ?_
      refine zk_icmp_ge (tgt := 76) (pc := 19) B dX3_planInsertion_19 (by decide) (fun _ => ?_) (fun _ => ?_)
      · refine zk_aload_n (pc := 76) B dX3_planInsertion_76 0 rfl rfl ?_
        refine zk_aload_n (pc := 77) B dX3_planInsertion_77 1 rfl rfl ?_
        refine zk_cvm (pc := 78) (k' := 0) (n' := 0) B rfl rfl (Nat.le_of_ble_eq_true rfl) (Nat.le_of_ble_eq_true rfl) (fun b hb => zr_V B hR kV_yX3_planTimes km_3_59 kx_3 (gPlan_s hG) [.ref u1] rfl rfl (Nat.le_of_ble_eq_true rfl) dX3_planInsertion_78 (m_Plan_planTimes hX hG hu1 M b hb) ⟨Nat.le_of_ble_eq_true rfl, Nat.le_of_ble_eq_true rfl⟩ ⟨Nat.le_of_ble_eq_true rfl, Nat.le_of_ble_eq_true rfl⟩) (fun M2 => ?_)
        exact zk_vret (pc := 81) B dX3_planInsertion_81 rfl (Nat.le_of_ble_eq_true rfl) (Nat.le_of_ble_eq_true rfl) rfl
      · refine zk_iload (pc := 22) B dX3_planInsertion_22 6 rfl ?_
        refine zk_iload_n (pc := 24) B dX3_planInsertion_24 3 rfl rfl ?_
        refine zk_icmp_ne (tgt := 39) (pc := 25) B dX3_planInsertion_25 (by decide) (fun _ => ?_) (fun _ => ?_)
        · refine zk_iload (pc := 39) B dX3_planInsertion_39 6 rfl ?_
          refine zk_iload (pc := 41) B dX3_planInsertion_41 4 rfl ?_
          refine zk_icmp_ne (tgt := 57) (pc := 43) B dX3_planInsertion_43 (by decide) (fun _ => ?_) (fun _ => ?_)
          · refine zk_aload_n (pc := 57) B dX3_planInsertion_57 0 rfl rfl ?_
            refine zk_aload_n (pc := 58) B dX3_planInsertion_58 1 rfl rfl ?_
            refine zk_iload (pc := 59) B dX3_planInsertion_59 5 rfl ?_
            refine zk_cpi (pc := 61) (k' := 0) (n' := 0) B rfl rfl (Nat.le_of_ble_eq_true rfl) (Nat.le_of_ble_eq_true rfl) (fun b hb => zr_V B hR kV_yX6_stopAt km_3_51 kx_6 (gTaxi_s hu1) [.int v5] rfl rfl (Nat.le_of_ble_eq_true rfl) dX3_planInsertion_61 (m_Taxi_stopAt hX hu1 v5 M b hb) ⟨Nat.le_of_ble_eq_true rfl, Nat.le_of_ble_eq_true rfl⟩ ⟨Nat.le_of_ble_eq_true rfl, Nat.le_of_ble_eq_true rfl⟩) (fun x3 _ => ?_)
            refine zk_cvm (pc := 64) (k' := 0) (n' := 0) B rfl rfl (Nat.le_of_ble_eq_true rfl) (Nat.le_of_ble_eq_true rfl) (fun b hb => zr_V B hR kV_yX3_append km_3_55 kx_3 (gPlan_s hG) [.int x3] rfl rfl (Nat.le_of_ble_eq_true rfl) dX3_planInsertion_64 (m_Plan_append hX hG x3 M b hb) ⟨Nat.le_of_ble_eq_true rfl, Nat.le_of_ble_eq_true rfl⟩ ⟨Nat.le_of_ble_eq_true rfl, Nat.le_of_ble_eq_true rfl⟩) (fun M4 => ?_)
            refine zk_iinc (y := 1) (lf := fun x5 => [(5, .int x5), (0, .ref (o + 487)), (1, .ref u1), (2, .int v2), (3, .int v3), (4, .int v4), (6, .int v6)]) (pc := 67) B dX3_planInsertion_67 5 rfl (by decide) (by decide) (fun _ => rfl) (fun x5 => ?_)
            refine zk_iinc (y := 1) (lf := fun x6 => [(6, .int x6), (5, .int x5), (0, .ref (o + 487)), (1, .ref u1), (2, .int v2), (3, .int v3), (4, .int v4)]) (pc := 70) B dX3_planInsertion_70 6 rfl (by decide) (by decide) (fun _ => rfl) (fun x6 => ?_)
            refine zk_goto (tgt := 11) (pc := 73) B dX3_planInsertion_73 (by decide) ?_
            refine zk_sub [2, 3, 4, 5, 6, 1, 0] rfl ?_
            exact ih11 u1 hu1 v2 v3 v4 x5 x6 M4
          · refine zk_aload_n (pc := 46) B dX3_planInsertion_46 0 rfl rfl ?_
            refine zk_iload_n (pc := 47) B dX3_planInsertion_47 2 rfl rfl ?_
            refine zk_cpi (pc := 48) (k' := 0) (n' := 0) B rfl rfl (Nat.le_of_ble_eq_true rfl) (Nat.le_of_ble_eq_true rfl) (fun b hb => zr_S B hR kS_yX0_dropOf km_3_68 [.int v2] rfl rfl (Nat.le_of_ble_eq_true rfl) dX3_planInsertion_48 (m_Desk_dropOf hX v2 M b hb) ⟨Nat.le_of_ble_eq_true rfl, Nat.le_of_ble_eq_true rfl⟩ ⟨Nat.le_of_ble_eq_true rfl, Nat.le_of_ble_eq_true rfl⟩) (fun x7 _ => ?_)
            refine zk_cvm (pc := 51) (k' := 0) (n' := 0) B rfl rfl (Nat.le_of_ble_eq_true rfl) (Nat.le_of_ble_eq_true rfl) (fun b hb => zr_V B hR kV_yX3_append km_3_55 kx_3 (gPlan_s hG) [.int x7] rfl rfl (Nat.le_of_ble_eq_true rfl) dX3_planInsertion_51 (m_Plan_append hX hG x7 M b hb) ⟨Nat.le_of_ble_eq_true rfl, Nat.le_of_ble_eq_true rfl⟩ ⟨Nat.le_of_ble_eq_true rfl, Nat.le_of_ble_eq_true rfl⟩) (fun M8 => ?_)
            refine zk_goto (tgt := 70) (pc := 54) B dX3_planInsertion_54 (by decide) ?_
            refine zk_iinc (y := 1) (lf := fun x9 => [(6, .int x9), (0, .ref (o + 487)), (1, .ref u1), (2, .int v2), (3, .int v3), (4, .int v4), (5, .int v5)]) (pc := 70) B dX3_planInsertion_70 6 rfl (by decide) (by decide) (fun _ => rfl) (fun x9 => ?_)
            refine zk_goto (tgt := 11) (pc := 73) B dX3_planInsertion_73 (by decide) ?_
            refine zk_sub [1, 2, 3, 4, 5, 6, 0] rfl ?_
            exact ih11 u1 hu1 v2 v3 v4 v5 x9 M8
        · refine zk_aload_n (pc := 28) B dX3_planInsertion_28 0 rfl rfl ?_
          refine zk_iload_n (pc := 29) B dX3_planInsertion_29 2 rfl rfl ?_
          refine zk_cpi (pc := 30) (k' := 0) (n' := 0) B rfl rfl (Nat.le_of_ble_eq_true rfl) (Nat.le_of_ble_eq_true rfl) (fun b hb => zr_S B hR kS_yX0_pickupOf km_3_63 [.int v2] rfl rfl (Nat.le_of_ble_eq_true rfl) dX3_planInsertion_30 (m_Desk_pickupOf hX v2 M b hb) ⟨Nat.le_of_ble_eq_true rfl, Nat.le_of_ble_eq_true rfl⟩ ⟨Nat.le_of_ble_eq_true rfl, Nat.le_of_ble_eq_true rfl⟩) (fun x10 _ => ?_)
          refine zk_cvm (pc := 33) (k' := 0) (n' := 0) B rfl rfl (Nat.le_of_ble_eq_true rfl) (Nat.le_of_ble_eq_true rfl) (fun b hb => zr_V B hR kV_yX3_append km_3_55 kx_3 (gPlan_s hG) [.int x10] rfl rfl (Nat.le_of_ble_eq_true rfl) dX3_planInsertion_33 (m_Plan_append hX hG x10 M b hb) ⟨Nat.le_of_ble_eq_true rfl, Nat.le_of_ble_eq_true rfl⟩ ⟨Nat.le_of_ble_eq_true rfl, Nat.le_of_ble_eq_true rfl⟩) (fun M11 => ?_)
          refine zk_goto (tgt := 70) (pc := 36) B dX3_planInsertion_36 (by decide) ?_
          refine zk_iinc (y := 1) (lf := fun x12 => [(6, .int x12), (0, .ref (o + 487)), (1, .ref u1), (2, .int v2), (3, .int v3), (4, .int v4), (5, .int v5)]) (pc := 70) B dX3_planInsertion_70 6 rfl (by decide) (by decide) (fun _ => rfl) (fun x12 => ?_)
          refine zk_goto (tgt := 11) (pc := 73) B dX3_planInsertion_73 (by decide) ?_
          refine zk_sub [1, 2, 3, 4, 5, 6, 0] rfl ?_
          exact ih11 u1 hu1 v2 v3 v4 v5 x12 M11
  show z_K X F 7 0 0 G z_cvm b 0 0 0 [(0, .ref (o + 487)), (1, .ref r0), (2, .int p1), (3, .int p2), (4, .int p3)] [] M (F_Plan_planInsertion o r0 p1 p2 p3 M)
  unfold F_Plan_planInsertion
  refine zk_aload_n (pc := 0) B dX3_planInsertion_0 0 rfl rfl ?_
  refine zk_iconst (v := 0) (pc := 1) B dX3_planInsertion_1 (by decide) ?_
  refine zk_puti (pc := 2) B kx_3 (gPlan_s hG) 3 (by decide) kf_3_42 rfl rfl rfl rfl dX3_planInsertion_2 ?_
  refine zk_lm (fun M1 => ?_)
  refine zk_iconst (v := 0) (pc := 5) B dX3_planInsertion_5 (by decide) ?_
  refine zk_istore (loc' := [(5, .int 0), (0, .ref (o + 487)), (1, .ref r0), (2, .int p1), (3, .int p2), (4, .int p3)]) (pc := 6) B dX3_planInsertion_6 (by decide) rfl ?_
  refine zk_iconst (v := 0) (pc := 8) B dX3_planInsertion_8 (by decide) ?_
  refine zk_istore (loc' := [(6, .int 0), (5, .int 0), (0, .ref (o + 487)), (1, .ref r0), (2, .int p1), (3, .int p2), (4, .int p3)]) (pc := 9) B dX3_planInsertion_9 (by decide) rfl ?_
  refine zk_sub [2, 3, 4, 5, 6, 1, 0] rfl ?_
  exact L11 10000 r0 hr0 p1 p2 p3 0 0 M1
set_option maxHeartbeats 4000000 in
set_option maxRecDepth 100000 in
theorem m_Plan_arrivalAt {X : z_X} (hX : z_ok X) {G : z_Gr} {o : Nat} (hG : g_Sys G o) (p0 : Int32) (M : z_Mem) (b : Int32) (h : F_Plan_arrivalAt o p0 M = some b) : z_Ct X yX3_arrivalAt cX3_arrivalAt 2 (some .int) ({ frames := 1, cells := 0, slots := 0, locals := 21 } : Room) [.ref (o + 487), .int p0] G M (fun o9 G9 M9 => G9 = G ∧ (o9, M9) = (z_ci M) b) := by
  refine z_enter hX (by decide) (Nat.le_of_ble_eq_true rfl) h (fun F B hR => ?_)
  show z_K X F 2 0 0 G (z_ci M) b 0 0 0 [(0, .ref (o + 487)), (1, .int p0)] [] M (F_Plan_arrivalAt o p0 M)
  unfold F_Plan_arrivalAt
  refine zk_aload_n (pc := 0) B dX3_arrivalAt_0 0 rfl rfl ?_
  refine zk_iload_n (pc := 1) B dX3_arrivalAt_1 1 rfl rfl ?_
  refine zk_cpi (pc := 2) (k' := 0) (n' := 0) B rfl rfl (Nat.le_of_ble_eq_true rfl) (Nat.le_of_ble_eq_true rfl) (fun b hb => zr_V B hR kV_yX3_hasPlace km_3_38 kx_3 (gPlan_s hG) [.int p0] rfl rfl (Nat.le_of_ble_eq_true rfl) dX3_arrivalAt_2 (m_Plan_hasPlace hX hG p0 M b hb) ⟨Nat.le_of_ble_eq_true rfl, Nat.le_of_ble_eq_true rfl⟩ ⟨Nat.le_of_ble_eq_true rfl, Nat.le_of_ble_eq_true rfl⟩) (fun x1 _ => ?_)
  refine zk_if_eq (tgt := 17) (pc := 5) B dX3_arrivalAt_5 (by decide) (fun _ => ?_) (fun _ => ?_)
  · refine zk_iconst (v := (-1)) (pc := 17) B dX3_arrivalAt_17 (by decide) ?_
    exact zk_iret (pc := 18) B dX3_arrivalAt_18 rfl rfl (Nat.le_of_ble_eq_true rfl) (Nat.le_of_ble_eq_true rfl) rfl
  · refine zk_aload_n (pc := 8) B dX3_arrivalAt_8 0 rfl rfl ?_
    refine zk_getr (pc := 9) B kx_3 (gPlan_s hG) 8 (by decide) kf_3_21 rfl (gPlan_f8 hG) dX3_arrivalAt_9 ?_
    refine zk_iload_n (pc := 12) B dX3_arrivalAt_12 1 rfl rfl ?_
    refine zk_iald (pc := 13) B (gPlan_t8 hG) dX3_arrivalAt_13 ?_
    refine zk_goto (tgt := 18) (pc := 14) B dX3_arrivalAt_14 (by decide) ?_
    exact zk_iret (pc := 18) B dX3_arrivalAt_18 rfl rfl (Nat.le_of_ble_eq_true rfl) (Nat.le_of_ble_eq_true rfl) rfl
set_option maxHeartbeats 4000000 in
set_option maxRecDepth 100000 in
theorem m_Insertion_isAsGoodAs {X : z_X} (hX : z_ok X) {G : z_Gr} {o : Nat} (hG : g_Sys G o) (p0 : Int32) (p1 : Int32) (M : z_Mem) (b : Int32) (h : F_Insertion_isAsGoodAs o p0 p1 M = some b) : z_Ct X yX2_isAsGoodAs cX2_isAsGoodAs 3 (some .boolean) ({ frames := 0, cells := 0, slots := 0, locals := 0 } : Room) [.ref (o + 494), .int p0, .int p1] G M (fun o9 G9 M9 => G9 = G ∧ (o9, M9) = (z_ci M) b) := by
  refine z_enter hX (by decide) (Nat.le_of_ble_eq_true rfl) h (fun F B hR => ?_)
  have J24 : z_K X F 3 0 0 G (z_ci M) b 0 0 24 [] [] M (F_Insertion_isAsGoodAs_J24 o M) := by
    unfold F_Insertion_isAsGoodAs_J24
    refine zk_iconst (v := 1) (pc := 24) B dX2_isAsGoodAs_24 (by decide) ?_
    refine zk_goto (tgt := 29) (pc := 25) B dX2_isAsGoodAs_25 (by decide) ?_
    exact zk_iret (pc := 29) B dX2_isAsGoodAs_29 rfl rfl (Nat.le_of_ble_eq_true rfl) (Nat.le_of_ble_eq_true rfl) rfl
  show z_K X F 3 0 0 G (z_ci M) b 0 0 0 [(0, .ref (o + 494)), (1, .int p0), (2, .int p1)] [] M (F_Insertion_isAsGoodAs o p0 p1 M)
  unfold F_Insertion_isAsGoodAs
  refine zk_aload_n (pc := 0) B dX2_isAsGoodAs_0 0 rfl rfl ?_
  refine zk_geti (pc := 1) B kx_2 (gInsertion_s hG) 0 (by decide) kf_2_53 rfl dX2_isAsGoodAs_1 ?_
  refine zk_iload_n (pc := 4) B dX2_isAsGoodAs_4 1 rfl rfl ?_
  refine zk_icmp_lt (tgt := 24) (pc := 5) B dX2_isAsGoodAs_5 (by decide) (fun _ => ?_) (fun _ => ?_)
  · refine zk_sub [] rfl ?_
    exact J24
  · refine zk_aload_n (pc := 8) B dX2_isAsGoodAs_8 0 rfl rfl ?_
    refine zk_geti (pc := 9) B kx_2 (gInsertion_s hG) 0 (by decide) kf_2_53 rfl dX2_isAsGoodAs_9 ?_
    refine zk_iload_n (pc := 12) B dX2_isAsGoodAs_12 1 rfl rfl ?_
    refine zk_icmp_ne (tgt := 28) (pc := 13) B dX2_isAsGoodAs_13 (by decide) (fun _ => ?_) (fun _ => ?_)
    · refine zk_iconst (v := 0) (pc := 28) B dX2_isAsGoodAs_28 (by decide) ?_
      exact zk_iret (pc := 29) B dX2_isAsGoodAs_29 rfl rfl (Nat.le_of_ble_eq_true rfl) (Nat.le_of_ble_eq_true rfl) rfl
    · refine zk_aload_n (pc := 16) B dX2_isAsGoodAs_16 0 rfl rfl ?_
      refine zk_geti (pc := 17) B kx_2 (gInsertion_s hG) 1 (by decide) kf_2_56 rfl dX2_isAsGoodAs_17 ?_
      refine zk_iload_n (pc := 20) B dX2_isAsGoodAs_20 2 rfl rfl ?_
      refine zk_icmp_gt (tgt := 28) (pc := 21) B dX2_isAsGoodAs_21 (by decide) (fun _ => ?_) (fun _ => ?_)
      · refine zk_iconst (v := 0) (pc := 28) B dX2_isAsGoodAs_28 (by decide) ?_
        exact zk_iret (pc := 29) B dX2_isAsGoodAs_29 rfl rfl (Nat.le_of_ble_eq_true rfl) (Nat.le_of_ble_eq_true rfl) rfl
      · refine zk_sub [] rfl ?_
        exact J24
set_option maxHeartbeats 4000000 in
set_option maxRecDepth 100000 in
theorem m_Plan_doneAt {X : z_X} (hX : z_ok X) {G : z_Gr} {o : Nat} (hG : g_Sys G o) (p0 : Int32) (M : z_Mem) (b : Int32) (h : F_Plan_doneAt o p0 M = some b) : z_Ct X yX3_doneAt cX3_doneAt 2 (some .int) ({ frames := 1, cells := 0, slots := 0, locals := 21 } : Room) [.ref (o + 487), .int p0] G M (fun o9 G9 M9 => G9 = G ∧ (o9, M9) = (z_ci M) b) := by
  refine z_enter hX (by decide) (Nat.le_of_ble_eq_true rfl) h (fun F B hR => ?_)
  show z_K X F 2 0 0 G (z_ci M) b 0 0 0 [(0, .ref (o + 487)), (1, .int p0)] [] M (F_Plan_doneAt o p0 M)
  unfold F_Plan_doneAt
  refine zk_aload_n (pc := 0) B dX3_doneAt_0 0 rfl rfl ?_
  refine zk_iload_n (pc := 1) B dX3_doneAt_1 1 rfl rfl ?_
  refine zk_cpi (pc := 2) (k' := 0) (n' := 0) B rfl rfl (Nat.le_of_ble_eq_true rfl) (Nat.le_of_ble_eq_true rfl) (fun b hb => zr_V B hR kV_yX3_hasPlace km_3_38 kx_3 (gPlan_s hG) [.int p0] rfl rfl (Nat.le_of_ble_eq_true rfl) dX3_doneAt_2 (m_Plan_hasPlace hX hG p0 M b hb) ⟨Nat.le_of_ble_eq_true rfl, Nat.le_of_ble_eq_true rfl⟩ ⟨Nat.le_of_ble_eq_true rfl, Nat.le_of_ble_eq_true rfl⟩) (fun x1 _ => ?_)
  refine zk_if_eq (tgt := 17) (pc := 5) B dX3_doneAt_5 (by decide) (fun _ => ?_) (fun _ => ?_)
  · refine zk_iconst (v := (-1)) (pc := 17) B dX3_doneAt_17 (by decide) ?_
    exact zk_iret (pc := 18) B dX3_doneAt_18 rfl rfl (Nat.le_of_ble_eq_true rfl) (Nat.le_of_ble_eq_true rfl) rfl
  · refine zk_aload_n (pc := 8) B dX3_doneAt_8 0 rfl rfl ?_
    refine zk_getr (pc := 9) B kx_3 (gPlan_s hG) 9 (by decide) kf_3_24 rfl (gPlan_f9 hG) dX3_doneAt_9 ?_
    refine zk_iload_n (pc := 12) B dX3_doneAt_12 1 rfl rfl ?_
    refine zk_iald (pc := 13) B (gPlan_t9 hG) dX3_doneAt_13 ?_
    refine zk_goto (tgt := 18) (pc := 14) B dX3_doneAt_14 (by decide) ?_
    exact zk_iret (pc := 18) B dX3_doneAt_18 rfl rfl (Nat.le_of_ble_eq_true rfl) (Nat.le_of_ble_eq_true rfl) rfl
set_option maxHeartbeats 4000000 in
set_option maxRecDepth 100000 in
theorem m_Plan_stintBehind {X : z_X} (hX : z_ok X) {G : z_Gr} {o : Nat} (hG : g_Sys G o) (p0 : Int32) (p1 : Int32) (p2 : Int32) (p3 : Int32) (M : z_Mem) (b : Int32) (h : F_Plan_stintBehind o p0 p1 p2 p3 M = some b) : z_Ct X yX3_stintBehind cX3_stintBehind 5 (some .int) ({ frames := 1, cells := 0, slots := 0, locals := 21 } : Room) [.ref (o + 487), .int p0, .int p1, .int p2, .int p3] G M (fun o9 G9 M9 => G9 = G ∧ (o9, M9) = (z_ci M) b) := by
  refine z_enter hX (by decide) (Nat.le_of_ble_eq_true rfl) h (fun F B hR => ?_)
  show z_K X F 5 0 0 G (z_ci M) b 0 0 0 [(0, .ref (o + 487)), (1, .int p0), (2, .int p1), (3, .int p2), (4, .int p3)] [] M (F_Plan_stintBehind o p0 p1 p2 p3 M)
  unfold F_Plan_stintBehind
  refine zk_iload_n (pc := 0) B dX3_stintBehind_0 3 rfl rfl ?_
  refine zk_iload_n (pc := 1) B dX3_stintBehind_1 2 rfl rfl ?_
  refine zk_isub (pc := 2) B dX3_stintBehind_2 ?_
  refine zk_aload_n (pc := 3) B dX3_stintBehind_3 0 rfl rfl ?_
  refine zk_getr (pc := 4) B kx_3 (gPlan_s hG) 2 (by decide) kf_3_34 rfl (gPlan_f2 hG) dX3_stintBehind_4 ?_
  refine zk_bipush (v := 6) (pc := 7) B dX3_stintBehind_7 (by decide) ?_
  refine zk_cpi (pc := 9) (k' := 0) (n' := 0) B rfl rfl (Nat.le_of_ble_eq_true rfl) (Nat.le_of_ble_eq_true rfl) (fun b hb => zr_V B hR kV_yX0_ruleValue km_3_129 kx_0 (gDesk_s (gPlan_t2 hG)) [.int 6] rfl rfl (Nat.le_of_ble_eq_true rfl) dX3_stintBehind_9 (m_Desk_ruleValue hX (gPlan_t2 hG) 6 M b hb) ⟨Nat.le_of_ble_eq_true rfl, Nat.le_of_ble_eq_true rfl⟩ ⟨Nat.le_of_ble_eq_true rfl, Nat.le_of_ble_eq_true rfl⟩) (fun x1 _ => ?_)
  refine zk_icmp_lt (tgt := 20) (pc := 12) B dX3_stintBehind_12 (by decide) (fun _ => ?_) (fun _ => ?_)
  · refine zk_iload_n (pc := 20) B dX3_stintBehind_20 1 rfl rfl ?_
    refine zk_iload (pc := 21) B dX3_stintBehind_21 4 rfl ?_
    refine zk_iadd (pc := 23) B dX3_stintBehind_23 ?_
    exact zk_iret (pc := 24) B dX3_stintBehind_24 rfl rfl (Nat.le_of_ble_eq_true rfl) (Nat.le_of_ble_eq_true rfl) rfl
  · refine zk_iload (pc := 15) B dX3_stintBehind_15 4 rfl ?_
    refine zk_goto (tgt := 24) (pc := 17) B dX3_stintBehind_17 (by decide) ?_
    exact zk_iret (pc := 24) B dX3_stintBehind_24 rfl rfl (Nat.le_of_ble_eq_true rfl) (Nat.le_of_ble_eq_true rfl) rfl
set_option maxHeartbeats 4000000 in
set_option maxRecDepth 100000 in
theorem m_Plan_isInTime {X : z_X} (hX : z_ok X) {G : z_Gr} {o : Nat} (hG : g_Sys G o) (p0 : Int32) (M : z_Mem) (b : Int32 × z_Mem) (h : F_Plan_isInTime o p0 M = some b) : z_Ct X yX3_isInTime cX3_isInTime 5 (some .boolean) ({ frames := 1, cells := 0, slots := 0, locals := 21 } : Room) [.ref (o + 487), .int p0] G M (fun o9 G9 M9 => G9 = G ∧ (o9, M9) = z_cim b) := by
  refine z_enter hX (by decide) (Nat.le_of_ble_eq_true rfl) h (fun F B hR => ?_)
  have J107 : ∀ (v1 : Int32) (u3 : Nat) (hu3 : g_Ride G u3) (s0 : Int32) (M : z_Mem), z_K X F 5 0 0 G z_cim b 0 0 107 [(0, .ref (o + 487)), (1, .int v1), (3, .ref u3)] [.int s0] M (F_Plan_isInTime_J107 o v1 u3 s0 M) := by
    intro v1 u3 hu3 s0 M
    unfold F_Plan_isInTime_J107
    refine zk_istore (loc' := [(4, .int s0), (0, .ref (o + 487)), (1, .int v1), (3, .ref u3)]) (pc := 107) B dX3_isInTime_107 (by decide) rfl ?_
    refine zk_aload_n (pc := 109) B dX3_isInTime_109 1 rfl rfl ?_
    refine zk_getr (pc := 110) B kx_3 (gPlan_s hG) 8 (by decide) kf_3_21 rfl (gPlan_f8 hG) dX3_isInTime_110 ?_
    refine zk_iload_n (pc := 113) B dX3_isInTime_113 2 rfl rfl ?_
    refine zk_iald (pc := 114) B (gPlan_t8 hG) dX3_isInTime_114 ?_
    refine zk_iload (pc := 115) B dX3_isInTime_115 0 rfl ?_
    refine zk_aload_n (pc := 117) B dX3_isInTime_117 3 rfl rfl ?_
    refine zk_geti (pc := 118) B kx_5 (gRide_s hu3) 8 (by decide) kf_3_167 rfl dX3_isInTime_118 ?_
    refine zk_iadd (pc := 121) B dX3_isInTime_121 ?_
    refine zk_icmp_gt (tgt := 129) (pc := 122) B dX3_isInTime_122 (by decide) (fun _ => ?_) (fun _ => ?_)
    · refine zk_iconst (v := 0) (pc := 129) B dX3_isInTime_129 (by decide) ?_
      exact zk_iret (pc := 130) B dX3_isInTime_130 rfl rfl (Nat.le_of_ble_eq_true rfl) (Nat.le_of_ble_eq_true rfl) rfl
    · refine zk_iconst (v := 1) (pc := 125) B dX3_isInTime_125 (by decide) ?_
      refine zk_goto (tgt := 130) (pc := 126) B dX3_isInTime_126 (by decide) ?_
      exact zk_iret (pc := 130) B dX3_isInTime_130 rfl rfl (Nat.le_of_ble_eq_true rfl) (Nat.le_of_ble_eq_true rfl) rfl
  have J21 : ∀ (v1 : Int32) (s0 : Int32) (M : z_Mem), z_K X F 5 0 0 G z_cim b 0 0 21 [(0, .ref (o + 487)), (1, .int v1)] [.int s0] M (F_Plan_isInTime_J21 o v1 s0 M) := by
    intro v1 s0 M
    unfold F_Plan_isInTime_J21
    refine zk_istore_n (loc' := [(2, .int s0), (0, .ref (o + 487)), (1, .int v1)]) (pc := 21) B dX3_isInTime_21 rfl (by decide) rfl ?_
    refine zk_iload_n (pc := 22) B dX3_isInTime_22 0 rfl rfl ?_
    refine zk_if_lt (tgt := 32) (pc := 23) B dX3_isInTime_23 (by decide) (fun _ => ?_) (fun _ => ?_)
    · refine zk_iconst (v := 0) (pc := 32) B dX3_isInTime_32 (by decide) ?_
      exact zk_iret (pc := 33) B dX3_isInTime_33 rfl rfl (Nat.le_of_ble_eq_true rfl) (Nat.le_of_ble_eq_true rfl) rfl
    · refine zk_iload_n (pc := 26) B dX3_isInTime_26 0 rfl rfl ?_
      refine zk_bipush (v := 24) (pc := 27) B dX3_isInTime_27 (by decide) ?_
      refine zk_icmp_lt (tgt := 34) (pc := 29) B dX3_isInTime_29 (by decide) (fun _ => ?_) (fun _ => ?_)
      · refine zk_aload_n (pc := 34) B dX3_isInTime_34 1 rfl rfl ?_
        refine zk_getr (pc := 35) B kx_3 (gPlan_s hG) 2 (by decide) kf_3_34 rfl (gPlan_f2 hG) dX3_isInTime_35 ?_
        refine zk_iload_n (pc := 38) B dX3_isInTime_38 0 rfl rfl ?_
        refine zk_cpr (pc := 39) (k' := 0) (n' := 0) B rfl rfl (Nat.le_of_ble_eq_true rfl) (Nat.le_of_ble_eq_true rfl) (fun b hb => zr_V B hR kV_yX0_rideAt km_3_117 kx_0 (gDesk_s (gPlan_t2 hG)) [.int s0] rfl rfl (Nat.le_of_ble_eq_true rfl) dX3_isInTime_39 (m_Desk_rideAt hX (gPlan_t2 hG) s0 M b hb) ⟨Nat.le_of_ble_eq_true rfl, Nat.le_of_ble_eq_true rfl⟩ ⟨Nat.le_of_ble_eq_true rfl, Nat.le_of_ble_eq_true rfl⟩) (fun t3 h4 => ?_)
        have ht3 : g_Ride G t3 := fr_Desk_rideAt (gPlan_t2 hG) h4
        refine zk_astore_n (loc' := [(3, .ref t3), (2, .int s0), (0, .ref (o + 487)), (1, .int v1)]) (pc := 42) B dX3_isInTime_42 rfl (by decide) rfl ?_
        refine zk_aload_n (pc := 43) B dX3_isInTime_43 2 rfl rfl ?_
        refine zk_getr (pc := 44) B kx_3 (gPlan_s hG) 5 (by decide) kf_3_9 rfl (gPlan_f5 hG) dX3_isInTime_44 ?_
        refine zk_iload_n (pc := 47) B dX3_isInTime_47 3 rfl rfl ?_
        refine zk_iald (pc := 48) B (gPlan_t5 hG) dX3_isInTime_48 ?_
        refine zk_cpi (pc := 49) (k' := 0) (n' := 0) B rfl rfl (Nat.le_of_ble_eq_true rfl) (Nat.le_of_ble_eq_true rfl) (fun b hb => zr_S B hR kS_yX0_isPickup km_3_111 [.int (M.1 (o + 488) v1.toNatClampNeg)] rfl rfl (Nat.le_of_ble_eq_true rfl) dX3_isInTime_49 (m_Desk_isPickup hX (M.1 (o + 488) v1.toNatClampNeg) M b hb) ⟨Nat.le_of_ble_eq_true rfl, Nat.le_of_ble_eq_true rfl⟩ ⟨Nat.le_of_ble_eq_true rfl, Nat.le_of_ble_eq_true rfl⟩) (fun x5 _ => ?_)
        refine zk_if_eq (tgt := 86) (pc := 52) B dX3_isInTime_52 (by decide) (fun _ => ?_) (fun _ => ?_)
        · refine zk_aload_n (pc := 86) B dX3_isInTime_86 0 rfl rfl ?_
          refine zk_geti (pc := 87) B kx_5 (gRide_s ht3) 0 (by decide) kf_3_161 rfl dX3_isInTime_87 ?_
          refine zk_iconst (v := 2) (pc := 90) B dX3_isInTime_90 (by decide) ?_
          refine zk_icmp_ne (tgt := 101) (pc := 91) B dX3_isInTime_91 (by decide) (fun _ => ?_) (fun _ => ?_)
          · refine zk_aload_n (pc := 101) B dX3_isInTime_101 2 rfl rfl ?_
            refine zk_getr (pc := 102) B kx_3 (gPlan_s hG) 10 (by decide) kf_3_27 rfl (gPlan_f10 hG) dX3_isInTime_102 ?_
            refine zk_iload_n (pc := 105) B dX3_isInTime_105 1 rfl rfl ?_
            refine zk_iald (pc := 106) B (gPlan_t10 hG) dX3_isInTime_106 ?_
            refine zk_sub [2, 3, 0] rfl ?_
            exact J107 v1 t3 ht3 (M.1 (o + 493) s0.toNatClampNeg) M
          · refine zk_aload_n (pc := 94) B dX3_isInTime_94 0 rfl rfl ?_
            refine zk_geti (pc := 95) B kx_5 (gRide_s ht3) 10 (by decide) kf_3_164 rfl dX3_isInTime_95 ?_
            refine zk_goto (tgt := 107) (pc := 98) B dX3_isInTime_98 (by decide) ?_
            refine zk_sub [2, 3, 0] rfl ?_
            exact J107 v1 t3 ht3 (M.1 t3 10) M
        · refine zk_aload_n (pc := 55) B dX3_isInTime_55 2 rfl rfl ?_
          refine zk_getr (pc := 56) B kx_3 (gPlan_s hG) 10 (by decide) kf_3_27 rfl (gPlan_f10 hG) dX3_isInTime_56 ?_
          refine zk_iload_n (pc := 59) B dX3_isInTime_59 1 rfl rfl ?_
          refine zk_aload_n (pc := 60) B dX3_isInTime_60 2 rfl rfl ?_
          refine zk_getr (pc := 61) B kx_3 (gPlan_s hG) 9 (by decide) kf_3_24 rfl (gPlan_f9 hG) dX3_isInTime_61 ?_
          refine zk_iload_n (pc := 64) B dX3_isInTime_64 3 rfl rfl ?_
          refine zk_iald (pc := 65) B (gPlan_t9 hG) dX3_isInTime_65 ?_
          refine zk_iast (pc := 66) B (gPlan_t10 hG) dX3_isInTime_66 ?_
          refine zk_lm (fun M6 => ?_)
          refine zk_aload_n (pc := 67) B dX3_isInTime_67 2 rfl rfl ?_
          refine zk_getr (pc := 68) B kx_3 (gPlan_s hG) 8 (by decide) kf_3_21 rfl (gPlan_f8 hG) dX3_isInTime_68 ?_
          refine zk_iload_n (pc := 71) B dX3_isInTime_71 3 rfl rfl ?_
          refine zk_iald (pc := 72) B (gPlan_t8 hG) dX3_isInTime_72 ?_
          refine zk_aload_n (pc := 73) B dX3_isInTime_73 0 rfl rfl ?_
          refine zk_geti (pc := 74) B kx_5 (gRide_s ht3) 5 (by decide) kf_3_158 rfl dX3_isInTime_74 ?_
          refine zk_icmp_gt (tgt := 84) (pc := 77) B dX3_isInTime_77 (by decide) (fun _ => ?_) (fun _ => ?_)
          · refine zk_iconst (v := 0) (pc := 84) B dX3_isInTime_84 (by decide) ?_
            exact zk_iret (pc := 85) B dX3_isInTime_85 rfl rfl (Nat.le_of_ble_eq_true rfl) (Nat.le_of_ble_eq_true rfl) rfl
          · refine zk_iconst (v := 1) (pc := 80) B dX3_isInTime_80 (by decide) ?_
            refine zk_goto (tgt := 85) (pc := 81) B dX3_isInTime_81 (by decide) ?_
            exact zk_iret (pc := 85) B dX3_isInTime_85 rfl rfl (Nat.le_of_ble_eq_true rfl) (Nat.le_of_ble_eq_true rfl) rfl
      · refine zk_iconst (v := 0) (pc := 32) B dX3_isInTime_32 (by decide) ?_
        exact zk_iret (pc := 33) B dX3_isInTime_33 rfl rfl (Nat.le_of_ble_eq_true rfl) (Nat.le_of_ble_eq_true rfl) rfl
  show z_K X F 5 0 0 G z_cim b 0 0 0 [(0, .ref (o + 487)), (1, .int p0)] [] M (F_Plan_isInTime o p0 M)
  unfold F_Plan_isInTime
  refine zk_aload_n (pc := 0) B dX3_isInTime_0 0 rfl rfl ?_
  refine zk_iload_n (pc := 1) B dX3_isInTime_1 1 rfl rfl ?_
  refine zk_cpi (pc := 2) (k' := 0) (n' := 0) B rfl rfl (Nat.le_of_ble_eq_true rfl) (Nat.le_of_ble_eq_true rfl) (fun b hb => zr_V B hR kV_yX3_hasPlace km_3_38 kx_3 (gPlan_s hG) [.int p0] rfl rfl (Nat.le_of_ble_eq_true rfl) dX3_isInTime_2 (m_Plan_hasPlace hX hG p0 M b hb) ⟨Nat.le_of_ble_eq_true rfl, Nat.le_of_ble_eq_true rfl⟩ ⟨Nat.le_of_ble_eq_true rfl, Nat.le_of_ble_eq_true rfl⟩) (fun x1 _ => ?_)
  refine zk_if_eq (tgt := 20) (pc := 5) B dX3_isInTime_5 (by decide) (fun _ => ?_) (fun _ => ?_)
  · refine zk_iconst (v := (-1)) (pc := 20) B dX3_isInTime_20 (by decide) ?_
    exact J21 p0 (-1) M
  · refine zk_aload_n (pc := 8) B dX3_isInTime_8 0 rfl rfl ?_
    refine zk_getr (pc := 9) B kx_3 (gPlan_s hG) 5 (by decide) kf_3_9 rfl (gPlan_f5 hG) dX3_isInTime_9 ?_
    refine zk_iload_n (pc := 12) B dX3_isInTime_12 1 rfl rfl ?_
    refine zk_iald (pc := 13) B (gPlan_t5 hG) dX3_isInTime_13 ?_
    refine zk_cpi (pc := 14) (k' := 0) (n' := 0) B rfl rfl (Nat.le_of_ble_eq_true rfl) (Nat.le_of_ble_eq_true rfl) (fun b hb => zr_S B hR kS_yX0_rideNumber km_3_114 [.int (M.1 (o + 488) p0.toNatClampNeg)] rfl rfl (Nat.le_of_ble_eq_true rfl) dX3_isInTime_14 (m_Desk_rideNumber hX (M.1 (o + 488) p0.toNatClampNeg) M b hb) ⟨Nat.le_of_ble_eq_true rfl, Nat.le_of_ble_eq_true rfl⟩ ⟨Nat.le_of_ble_eq_true rfl, Nat.le_of_ble_eq_true rfl⟩) (fun x2 _ => ?_)
    refine zk_goto (tgt := 21) (pc := 17) B dX3_isInTime_17 (by decide) ?_
    exact J21 p0 x2 M
set_option maxHeartbeats 4000000 in
set_option maxRecDepth 100000 in
theorem m_Plan_personsChange {X : z_X} (hX : z_ok X) {G : z_Gr} {o : Nat} (hG : g_Sys G o) (p0 : Int32) (M : z_Mem) (b : Int32) (h : F_Plan_personsChange o p0 M = some b) : z_Ct X yX3_personsChange cX3_personsChange 3 (some .int) ({ frames := 1, cells := 0, slots := 0, locals := 21 } : Room) [.ref (o + 487), .int p0] G M (fun o9 G9 M9 => G9 = G ∧ (o9, M9) = (z_ci M) b) := by
  refine z_enter hX (by decide) (Nat.le_of_ble_eq_true rfl) h (fun F B hR => ?_)
  show z_K X F 3 0 0 G (z_ci M) b 0 0 0 [(0, .ref (o + 487)), (1, .int p0)] [] M (F_Plan_personsChange o p0 M)
  unfold F_Plan_personsChange
  refine zk_aload_n (pc := 0) B dX3_personsChange_0 0 rfl rfl ?_
  refine zk_getr (pc := 1) B kx_3 (gPlan_s hG) 2 (by decide) kf_3_34 rfl (gPlan_f2 hG) dX3_personsChange_1 ?_
  refine zk_iload_n (pc := 4) B dX3_personsChange_4 1 rfl rfl ?_
  refine zk_cpi (pc := 5) (k' := 0) (n' := 0) B rfl rfl (Nat.le_of_ble_eq_true rfl) (Nat.le_of_ble_eq_true rfl) (fun b hb => zr_S B hR kS_yX0_rideNumber km_3_114 [.int p0] rfl rfl (Nat.le_of_ble_eq_true rfl) dX3_personsChange_5 (m_Desk_rideNumber hX p0 M b hb) ⟨Nat.le_of_ble_eq_true rfl, Nat.le_of_ble_eq_true rfl⟩ ⟨Nat.le_of_ble_eq_true rfl, Nat.le_of_ble_eq_true rfl⟩) (fun x1 _ => ?_)
  refine zk_cpr (pc := 8) (k' := 0) (n' := 0) B rfl rfl (Nat.le_of_ble_eq_true rfl) (Nat.le_of_ble_eq_true rfl) (fun b hb => zr_V B hR kV_yX0_rideAt km_3_117 kx_0 (gDesk_s (gPlan_t2 hG)) [.int x1] rfl rfl (Nat.le_of_ble_eq_true rfl) dX3_personsChange_8 (m_Desk_rideAt hX (gPlan_t2 hG) x1 M b hb) ⟨Nat.le_of_ble_eq_true rfl, Nat.le_of_ble_eq_true rfl⟩ ⟨Nat.le_of_ble_eq_true rfl, Nat.le_of_ble_eq_true rfl⟩) (fun t2 h3 => ?_)
  have ht2 : g_Ride G t2 := fr_Desk_rideAt (gPlan_t2 hG) h3
  refine zk_astore_n (loc' := [(2, .ref t2), (0, .ref (o + 487)), (1, .int p0)]) (pc := 11) B dX3_personsChange_11 rfl (by decide) rfl ?_
  refine zk_iload_n (pc := 12) B dX3_personsChange_12 2 rfl rfl ?_
  refine zk_cpi (pc := 13) (k' := 0) (n' := 0) B rfl rfl (Nat.le_of_ble_eq_true rfl) (Nat.le_of_ble_eq_true rfl) (fun b hb => zr_S B hR kS_yX0_isPickup km_3_111 [.int p0] rfl rfl (Nat.le_of_ble_eq_true rfl) dX3_personsChange_13 (m_Desk_isPickup hX p0 M b hb) ⟨Nat.le_of_ble_eq_true rfl, Nat.le_of_ble_eq_true rfl⟩ ⟨Nat.le_of_ble_eq_true rfl, Nat.le_of_ble_eq_true rfl⟩) (fun x4 _ => ?_)
  refine zk_if_ne (tgt := 25) (pc := 16) B dX3_personsChange_16 (by decide) (fun _ => ?_) (fun _ => ?_)
  · refine zk_aload_n (pc := 25) B dX3_personsChange_25 0 rfl rfl ?_
    refine zk_geti (pc := 26) B kx_5 (gRide_s ht2) 13 (by decide) kf_3_126 rfl dX3_personsChange_26 ?_
    refine zk_if_eq (tgt := 36) (pc := 29) B dX3_personsChange_29 (by decide) (fun _ => ?_) (fun _ => ?_)
    · refine zk_aload_n (pc := 36) B dX3_personsChange_36 0 rfl rfl ?_
      refine zk_geti (pc := 37) B kx_5 (gRide_s ht2) 3 (by decide) kf_3_170 rfl dX3_personsChange_37 ?_
      exact zk_iret (pc := 40) B dX3_personsChange_40 rfl rfl (Nat.le_of_ble_eq_true rfl) (Nat.le_of_ble_eq_true rfl) rfl
    · refine zk_iconst (v := 0) (pc := 32) B dX3_personsChange_32 (by decide) ?_
      refine zk_goto (tgt := 40) (pc := 33) B dX3_personsChange_33 (by decide) ?_
      exact zk_iret (pc := 40) B dX3_personsChange_40 rfl rfl (Nat.le_of_ble_eq_true rfl) (Nat.le_of_ble_eq_true rfl) rfl
  · refine zk_aload_n (pc := 19) B dX3_personsChange_19 0 rfl rfl ?_
    refine zk_geti (pc := 20) B kx_5 (gRide_s ht2) 3 (by decide) kf_3_170 rfl dX3_personsChange_20 ?_
    refine zk_ineg (pc := 23) B dX3_personsChange_23 ?_
    exact zk_iret (pc := 24) B dX3_personsChange_24 rfl rfl (Nat.le_of_ble_eq_true rfl) (Nat.le_of_ble_eq_true rfl) rfl
set_option maxHeartbeats 4000000 in
set_option maxRecDepth 100000 in
theorem m_Plan_keepsLimits {X : z_X} (hX : z_ok X) {G : z_Gr} {o : Nat} (hG : g_Sys G o) {r0 : Nat} (hr0 : g_Taxi G r0) (M : z_Mem) (b : Int32 × z_Mem) (h : F_Plan_keepsLimits o r0 M = some b) : z_Ct X yX3_keepsLimits cX3_keepsLimits 6 (some .boolean) ({ frames := 2, cells := 0, slots := 0, locals := 45 } : Room) [.ref (o + 487), .ref r0] G M (fun o9 G9 M9 => G9 = G ∧ (o9, M9) = z_cim b) := by
  refine z_enter hX (by decide) (Nat.le_of_ble_eq_true rfl) h (fun F B hR => ?_)
  have L58 : ∀ (nf58 : Nat), ∀ (u1 : Nat) (hu1 : g_Taxi G u1) (v2 : Int32) (v3 : Int32) (v4 : Int32) (v5 : Int32) (M : z_Mem), z_K X F 6 0 0 G z_cim b 0 0 58 [(0, .ref (o + 487)), (1, .ref u1), (2, .int v2), (3, .int v3), (4, .int v4), (5, .int v5)] [] M (F_Plan_keepsLimits_L58 o nf58 u1 v2 v3 v4 v5 M) := by
    intro nf58
    induction nf58 with
    | zero => intro u1 hu1 v2 v3 v4 v5 M; exact zk_none
    | succ nf58 ih58 =>
      intro u1 hu1 v2 v3 v4 v5 M
      show z_K X F 6 0 0 G z_cim b 0 0 58 [(0, .ref (o + 487)), (1, .ref u1), (2, .int v2), (3, .int v3), (4, .int v4), (5, .int v5)] [] M (F_Plan_keepsLimits_B58 o (F_Plan_keepsLimits_L58 o nf58) u1 v2 v3 v4 v5 M)
      unfold F_Plan_keepsLimits_B58
      refine zk_iload (pc := 58) B dX3_keepsLimits_58 5 rfl ?_
      refine zk_aload_n (pc := 60) B dX3_keepsLimits_60 0 rfl rfl ?_
      refine zk_geti (pc := 61) B kx_3 (gPlan_s hG) 3 (by decide) kf_3_42 rfl dX3_keepsLimits_61 ?_
      refine zk_icmp_ge (tgt := 156) (pc := 64) B dX3_keepsLimits_64 (by decide) (fun _ => ?_) (fun _ => ?_)
      · refine zk_iconst (v := 1) (pc := 156) B dX3_keepsLimits_156 (by decide) ?_
        exact zk_iret (pc := 157) B dX3_keepsLimits_157 rfl rfl (Nat.le_of_ble_eq_true rfl) (Nat.le_of_ble_eq_true rfl) rfl
      · refine zk_iload (pc := 67) B dX3_keepsLimits_67 5 rfl ?_
        refine zk_bipush (v := 12) (pc := 69) B dX3_keepsLimits_69 (by decide) ?_
        refine zk_icmp_ge (tgt := 156) (pc := 71) B dX3_keepsLimits_71 (by decide) (fun _ => ?_) (fun _ => ?_)
        · refine zk_iconst (v := 1) (pc := 156) B dX3_keepsLimits_156 (by decide) ?_
          exact zk_iret (pc := 157) B dX3_keepsLimits_157 rfl rfl (Nat.le_of_ble_eq_true rfl) (Nat.le_of_ble_eq_true rfl) rfl
        · refine zk_aload_n (pc := 74) B dX3_keepsLimits_74 0 rfl rfl ?_
          refine zk_iload_n (pc := 75) B dX3_keepsLimits_75 3 rfl rfl ?_
          refine zk_iload (pc := 76) B dX3_keepsLimits_76 4 rfl ?_
          refine zk_aload_n (pc := 78) B dX3_keepsLimits_78 0 rfl rfl ?_
          refine zk_getr (pc := 79) B kx_3 (gPlan_s hG) 7 (by decide) kf_3_18 rfl (gPlan_f7 hG) dX3_keepsLimits_79 ?_
          refine zk_iload (pc := 82) B dX3_keepsLimits_82 5 rfl ?_
          refine zk_iald (pc := 84) B (gPlan_t7 hG) dX3_keepsLimits_84 ?_
          refine zk_aload_n (pc := 85) B dX3_keepsLimits_85 0 rfl rfl ?_
          refine zk_getr (pc := 86) B kx_3 (gPlan_s hG) 6 (by decide) kf_3_15 rfl (gPlan_f6 hG) dX3_keepsLimits_86 ?_
          refine zk_iload (pc := 89) B dX3_keepsLimits_89 5 rfl ?_
          refine zk_iald (pc := 91) B (gPlan_t6 hG) dX3_keepsLimits_91 ?_
          refine zk_cpi (pc := 92) (k' := 0) (n' := 0) B rfl rfl (Nat.le_of_ble_eq_true rfl) (Nat.le_of_ble_eq_true rfl) (fun b hb => zr_V B hR kV_yX3_stintBehind km_3_145 kx_3 (gPlan_s hG) [.int v3, .int v4, .int (M.1 (o + 490) v5.toNatClampNeg), .int (M.1 (o + 489) v5.toNatClampNeg)] rfl rfl (Nat.le_of_ble_eq_true rfl) dX3_keepsLimits_92 (m_Plan_stintBehind hX hG v3 v4 (M.1 (o + 490) v5.toNatClampNeg) (M.1 (o + 489) v5.toNatClampNeg) M b hb) ⟨Nat.le_of_ble_eq_true rfl, Nat.le_of_ble_eq_true rfl⟩ ⟨Nat.le_of_ble_eq_true rfl, Nat.le_of_ble_eq_true rfl⟩) (fun x5 _ => ?_)
          refine zk_istore_n (loc' := [(3, .int x5), (0, .ref (o + 487)), (1, .ref u1), (2, .int v2), (4, .int v4), (5, .int v5)]) (pc := 95) B dX3_keepsLimits_95 rfl (by decide) rfl ?_
          refine zk_iload_n (pc := 96) B dX3_keepsLimits_96 3 rfl rfl ?_
          refine zk_aload_n (pc := 97) B dX3_keepsLimits_97 2 rfl rfl ?_
          refine zk_geti (pc := 98) B kx_6 (gTaxi_s hu1) 0 (by decide) kf_3_149 rfl dX3_keepsLimits_98 ?_
          refine zk_icmp_gt (tgt := 125) (pc := 101) B dX3_keepsLimits_101 (by decide) (fun _ => ?_) (fun _ => ?_)
          · refine zk_iconst (v := 0) (pc := 125) B dX3_keepsLimits_125 (by decide) ?_
            exact zk_iret (pc := 126) B dX3_keepsLimits_126 rfl rfl (Nat.le_of_ble_eq_true rfl) (Nat.le_of_ble_eq_true rfl) rfl
          · refine zk_iload_n (pc := 104) B dX3_keepsLimits_104 0 rfl rfl ?_
            refine zk_aload_n (pc := 105) B dX3_keepsLimits_105 1 rfl rfl ?_
            refine zk_getr (pc := 106) B kx_3 (gPlan_s hG) 2 (by decide) kf_3_34 rfl (gPlan_f2 hG) dX3_keepsLimits_106 ?_
            refine zk_iconst (v := 5) (pc := 109) B dX3_keepsLimits_109 (by decide) ?_
            refine zk_cpi (pc := 110) (k' := 0) (n' := 0) B rfl rfl (Nat.le_of_ble_eq_true rfl) (Nat.le_of_ble_eq_true rfl) (fun b hb => zr_V B hR kV_yX0_ruleValue km_3_129 kx_0 (gDesk_s (gPlan_t2 hG)) [.int 5] rfl rfl (Nat.le_of_ble_eq_true rfl) dX3_keepsLimits_110 (m_Desk_ruleValue hX (gPlan_t2 hG) 5 M b hb) ⟨Nat.le_of_ble_eq_true rfl, Nat.le_of_ble_eq_true rfl⟩ ⟨Nat.le_of_ble_eq_true rfl, Nat.le_of_ble_eq_true rfl⟩) (fun x6 _ => ?_)
            refine zk_icmp_gt (tgt := 125) (pc := 113) B dX3_keepsLimits_113 (by decide) (fun _ => ?_) (fun _ => ?_)
            · refine zk_iconst (v := 0) (pc := 125) B dX3_keepsLimits_125 (by decide) ?_
              exact zk_iret (pc := 126) B dX3_keepsLimits_126 rfl rfl (Nat.le_of_ble_eq_true rfl) (Nat.le_of_ble_eq_true rfl) rfl
            · refine zk_aload_n (pc := 116) B dX3_keepsLimits_116 1 rfl rfl ?_
              refine zk_iload (pc := 117) B dX3_keepsLimits_117 5 rfl ?_
              refine zk_cim (pc := 119) (k' := 0) (n' := 0) B rfl rfl (Nat.le_of_ble_eq_true rfl) (Nat.le_of_ble_eq_true rfl) (fun b hb => zr_V B hR kV_yX3_isInTime km_3_152 kx_3 (gPlan_s hG) [.int v5] rfl rfl (Nat.le_of_ble_eq_true rfl) dX3_keepsLimits_119 (m_Plan_isInTime hX hG v5 M b hb) ⟨Nat.le_of_ble_eq_true rfl, Nat.le_of_ble_eq_true rfl⟩ ⟨Nat.le_of_ble_eq_true rfl, Nat.le_of_ble_eq_true rfl⟩) (fun x8 M7 => ?_)
              refine zk_if_ne (tgt := 127) (pc := 122) B dX3_keepsLimits_122 (by decide) (fun _ => ?_) (fun _ => ?_)
              · refine zk_iload_n (pc := 127) B dX3_keepsLimits_127 3 rfl rfl ?_
                refine zk_aload_n (pc := 128) B dX3_keepsLimits_128 1 rfl rfl ?_
                refine zk_aload_n (pc := 129) B dX3_keepsLimits_129 1 rfl rfl ?_
                refine zk_getr (pc := 130) B kx_3 (gPlan_s hG) 5 (by decide) kf_3_9 rfl (gPlan_f5 hG) dX3_keepsLimits_130 ?_
                refine zk_iload (pc := 133) B dX3_keepsLimits_133 5 rfl ?_
                refine zk_iald (pc := 135) B (gPlan_t5 hG) dX3_keepsLimits_135 ?_
                refine zk_cpi (pc := 136) (k' := 0) (n' := 0) B rfl rfl (Nat.le_of_ble_eq_true rfl) (Nat.le_of_ble_eq_true rfl) (fun b hb => zr_V B hR kV_yX3_personsChange km_3_155 kx_3 (gPlan_s hG) [.int (M7.1 (o + 488) v5.toNatClampNeg)] rfl rfl (Nat.le_of_ble_eq_true rfl) dX3_keepsLimits_136 (m_Plan_personsChange hX hG (M7.1 (o + 488) v5.toNatClampNeg) M7 b hb) ⟨Nat.le_of_ble_eq_true rfl, Nat.le_of_ble_eq_true rfl⟩ ⟨Nat.le_of_ble_eq_true rfl, Nat.le_of_ble_eq_true rfl⟩) (fun x9 _ => ?_)
                refine zk_iadd (pc := 139) B dX3_keepsLimits_139 ?_
                refine zk_li (fun x10 => ?_)
                refine zk_istore_n (loc' := [(2, .int x10), (3, .int x5), (0, .ref (o + 487)), (1, .ref u1), (4, .int v4), (5, .int v5)]) (pc := 140) B dX3_keepsLimits_140 rfl (by decide) rfl ?_
                refine zk_aload_n (pc := 141) B dX3_keepsLimits_141 2 rfl rfl ?_
                refine zk_getr (pc := 142) B kx_3 (gPlan_s hG) 9 (by decide) kf_3_24 rfl (gPlan_f9 hG) dX3_keepsLimits_142 ?_
                refine zk_iload (pc := 145) B dX3_keepsLimits_145 5 rfl ?_
                refine zk_iald (pc := 147) B (gPlan_t9 hG) dX3_keepsLimits_147 ?_
                refine zk_li (fun x11 => ?_)
                refine zk_istore (loc' := [(4, .int x11), (2, .int x10), (3, .int x5), (0, .ref (o + 487)), (1, .ref u1), (5, .int v5)]) (pc := 148) B dX3_keepsLimits_148 (by decide) rfl ?_
                refine zk_iinc (y := 1) (lf := fun x12 => [(5, .int x12), (4, .int x11), (2, .int x10), (3, .int x5), (0, .ref (o + 487)), (1, .ref u1)]) (pc := 150) B dX3_keepsLimits_150 5 rfl (by decide) (by decide) (fun _ => rfl) (fun x12 => ?_)
                refine zk_goto (tgt := 58) (pc := 153) B dX3_keepsLimits_153 (by decide) ?_
                refine zk_sub [4, 5, 2, 3, 1, 0] rfl ?_
                exact ih58 u1 hu1 x10 x5 x11 x12 M7
              · refine zk_iconst (v := 0) (pc := 125) B dX3_keepsLimits_125 (by decide) ?_
                exact zk_iret (pc := 126) B dX3_keepsLimits_126 rfl rfl (Nat.le_of_ble_eq_true rfl) (Nat.le_of_ble_eq_true rfl) rfl
  show z_K X F 6 0 0 G z_cim b 0 0 0 [(0, .ref (o + 487)), (1, .ref r0)] [] M (F_Plan_keepsLimits o r0 M)
  unfold F_Plan_keepsLimits
  refine zk_aload_n (pc := 0) B dX3_keepsLimits_0 0 rfl rfl ?_
  refine zk_geti (pc := 1) B kx_3 (gPlan_s hG) 3 (by decide) kf_3_42 rfl dX3_keepsLimits_1 ?_
  refine zk_if_ne (tgt := 9) (pc := 4) B dX3_keepsLimits_4 (by decide) (fun _ => ?_) (fun _ => ?_)
  · refine zk_aload_n (pc := 9) B dX3_keepsLimits_9 0 rfl rfl ?_
    refine zk_geti (pc := 10) B kx_3 (gPlan_s hG) 4 (by decide) kf_3_80 rfl dX3_keepsLimits_10 ?_
    refine zk_if_eq (tgt := 33) (pc := 13) B dX3_keepsLimits_13 (by decide) (fun _ => ?_) (fun _ => ?_)
    · refine zk_iconst (v := 0) (pc := 33) B dX3_keepsLimits_33 (by decide) ?_
      exact zk_iret (pc := 34) B dX3_keepsLimits_34 rfl rfl (Nat.le_of_ble_eq_true rfl) (Nat.le_of_ble_eq_true rfl) rfl
    · refine zk_aload_n (pc := 16) B dX3_keepsLimits_16 0 rfl rfl ?_
      refine zk_aload_n (pc := 17) B dX3_keepsLimits_17 0 rfl rfl ?_
      refine zk_geti (pc := 18) B kx_3 (gPlan_s hG) 3 (by decide) kf_3_42 rfl dX3_keepsLimits_18 ?_
      refine zk_iconst (v := 1) (pc := 21) B dX3_keepsLimits_21 (by decide) ?_
      refine zk_isub (pc := 22) B dX3_keepsLimits_22 ?_
      refine zk_cpi (pc := 23) (k' := 0) (n' := 0) B rfl rfl (Nat.le_of_ble_eq_true rfl) (Nat.le_of_ble_eq_true rfl) (fun b hb => zr_V B hR kV_yX3_doneAt km_3_132 kx_3 (gPlan_s hG) [.int ((M.1 (o + 487) 3) - 1)] rfl rfl (Nat.le_of_ble_eq_true rfl) dX3_keepsLimits_23 (m_Plan_doneAt hX hG ((M.1 (o + 487) 3) - 1) M b hb) ⟨Nat.le_of_ble_eq_true rfl, Nat.le_of_ble_eq_true rfl⟩ ⟨Nat.le_of_ble_eq_true rfl, Nat.le_of_ble_eq_true rfl⟩) (fun x1 _ => ?_)
      refine zk_aload_n (pc := 26) B dX3_keepsLimits_26 1 rfl rfl ?_
      refine zk_geti (pc := 27) B kx_6 (gTaxi_s hr0) 4 (by decide) kf_3_135 rfl dX3_keepsLimits_27 ?_
      refine zk_icmp_le (tgt := 35) (pc := 30) B dX3_keepsLimits_30 (by decide) (fun _ => ?_) (fun _ => ?_)
      · refine zk_aload_n (pc := 35) B dX3_keepsLimits_35 0 rfl rfl ?_
        refine zk_getr (pc := 36) B kx_3 (gPlan_s hG) 2 (by decide) kf_3_34 rfl (gPlan_f2 hG) dX3_keepsLimits_36 ?_
        refine zk_aload_n (pc := 39) B dX3_keepsLimits_39 1 rfl rfl ?_
        refine zk_cpi (pc := 40) (k' := 0) (n' := 0) B rfl rfl (Nat.le_of_ble_eq_true rfl) (Nat.le_of_ble_eq_true rfl) (fun b hb => zr_V B hR kV_yX0_personsAboard km_3_138 kx_0 (gDesk_s (gPlan_t2 hG)) [.ref r0] rfl rfl (Nat.le_of_ble_eq_true rfl) dX3_keepsLimits_40 (m_Desk_personsAboard hX (gPlan_t2 hG) hr0 M b hb) ⟨Nat.le_of_ble_eq_true rfl, Nat.le_of_ble_eq_true rfl⟩ ⟨Nat.le_of_ble_eq_true rfl, Nat.le_of_ble_eq_true rfl⟩) (fun x2 _ => ?_)
        refine zk_istore_n (loc' := [(2, .int x2), (0, .ref (o + 487)), (1, .ref r0)]) (pc := 43) B dX3_keepsLimits_43 rfl (by decide) rfl ?_
        refine zk_aload_n (pc := 44) B dX3_keepsLimits_44 2 rfl rfl ?_
        refine zk_geti (pc := 45) B kx_6 (gTaxi_s hr0) 5 (by decide) kf_3_142 rfl dX3_keepsLimits_45 ?_
        refine zk_li (fun x3 => ?_)
        refine zk_istore_n (loc' := [(3, .int x3), (2, .int x2), (0, .ref (o + 487)), (1, .ref r0)]) (pc := 48) B dX3_keepsLimits_48 rfl (by decide) rfl ?_
        refine zk_aload_n (pc := 49) B dX3_keepsLimits_49 3 rfl rfl ?_
        refine zk_geti (pc := 50) B kx_6 (gTaxi_s hr0) 2 (by decide) kf_3_74 rfl dX3_keepsLimits_50 ?_
        refine zk_li (fun x4 => ?_)
        refine zk_istore (loc' := [(4, .int x4), (3, .int x3), (2, .int x2), (0, .ref (o + 487)), (1, .ref r0)]) (pc := 53) B dX3_keepsLimits_53 (by decide) rfl ?_
        refine zk_iconst (v := 0) (pc := 55) B dX3_keepsLimits_55 (by decide) ?_
        refine zk_istore (loc' := [(5, .int 0), (4, .int x4), (3, .int x3), (2, .int x2), (0, .ref (o + 487)), (1, .ref r0)]) (pc := 56) B dX3_keepsLimits_56 (by decide) rfl ?_
        refine zk_sub [4, 5, 3, 2, 1, 0] rfl ?_
        exact L58 10000 r0 hr0 x2 x3 x4 0 M
      · refine zk_iconst (v := 0) (pc := 33) B dX3_keepsLimits_33 (by decide) ?_
        exact zk_iret (pc := 34) B dX3_keepsLimits_34 rfl rfl (Nat.le_of_ble_eq_true rfl) (Nat.le_of_ble_eq_true rfl) rfl
  · refine zk_iconst (v := 1) (pc := 7) B dX3_keepsLimits_7 (by decide) ?_
    exact zk_iret (pc := 8) B dX3_keepsLimits_8 rfl rfl (Nat.le_of_ble_eq_true rfl) (Nat.le_of_ble_eq_true rfl) rfl
set_option maxHeartbeats 4000000 in
set_option maxRecDepth 100000 in
theorem m_Insertion_keep {X : z_X} (hX : z_ok X) {G : z_Gr} {o : Nat} (hG : g_Sys G o) (p0 : Int32) (p1 : Int32) (p2 : Int32) (M : z_Mem) (b : z_Mem) (h : F_Insertion_keep o p0 p1 p2 M = some b) : z_Ct X yX2_keep cX2_keep 4 none ({ frames := 2, cells := 0, slots := 0, locals := 42 } : Room) [.ref (o + 494), .int p0, .int p1, .int p2] G M (fun o9 G9 M9 => G9 = G ∧ (o9, M9) = z_cvm b) := by
  refine z_enter hX (by decide) (Nat.le_of_ble_eq_true rfl) h (fun F B hR => ?_)
  show z_K X F 4 0 0 G z_cvm b 0 0 0 [(0, .ref (o + 494)), (1, .int p0), (2, .int p1), (3, .int p2)] [] M (F_Insertion_keep o p0 p1 p2 M)
  unfold F_Insertion_keep
  refine zk_aload_n (pc := 0) B dX2_keep_0 0 rfl rfl ?_
  refine zk_iload_n (pc := 1) B dX2_keep_1 1 rfl rfl ?_
  refine zk_puti (pc := 2) B kx_2 (gInsertion_s hG) 0 (by decide) kf_2_53 rfl rfl rfl rfl dX2_keep_2 ?_
  refine zk_lm (fun M1 => ?_)
  refine zk_aload_n (pc := 5) B dX2_keep_5 0 rfl rfl ?_
  refine zk_aload_n (pc := 6) B dX2_keep_6 0 rfl rfl ?_
  refine zk_getr (pc := 7) B kx_2 (gInsertion_s hG) 5 (by decide) kf_2_9 rfl (gInsertion_f5 hG) dX2_keep_7 ?_
  refine zk_iload_n (pc := 10) B dX2_keep_10 2 rfl rfl ?_
  refine zk_cpi (pc := 11) (k' := 0) (n' := 0) B rfl rfl (Nat.le_of_ble_eq_true rfl) (Nat.le_of_ble_eq_true rfl) (fun b hb => zr_V B hR kV_yX3_arrivalAt km_2_37 kx_3 (gPlan_s hG) [.int p1] rfl rfl (Nat.le_of_ble_eq_true rfl) dX2_keep_11 (m_Plan_arrivalAt hX hG p1 M1 b hb) ⟨Nat.le_of_ble_eq_true rfl, Nat.le_of_ble_eq_true rfl⟩ ⟨Nat.le_of_ble_eq_true rfl, Nat.le_of_ble_eq_true rfl⟩) (fun x2 _ => ?_)
  refine zk_puti (pc := 14) B kx_2 (gInsertion_s hG) 1 (by decide) kf_2_56 rfl rfl rfl rfl dX2_keep_14 ?_
  refine zk_lm (fun M3 => ?_)
  refine zk_aload_n (pc := 17) B dX2_keep_17 0 rfl rfl ?_
  refine zk_aload_n (pc := 18) B dX2_keep_18 0 rfl rfl ?_
  refine zk_getr (pc := 19) B kx_2 (gInsertion_s hG) 5 (by decide) kf_2_9 rfl (gInsertion_f5 hG) dX2_keep_19 ?_
  refine zk_iload_n (pc := 22) B dX2_keep_22 3 rfl rfl ?_
  refine zk_cpi (pc := 23) (k' := 0) (n' := 0) B rfl rfl (Nat.le_of_ble_eq_true rfl) (Nat.le_of_ble_eq_true rfl) (fun b hb => zr_V B hR kV_yX3_arrivalAt km_2_37 kx_3 (gPlan_s hG) [.int p2] rfl rfl (Nat.le_of_ble_eq_true rfl) dX2_keep_23 (m_Plan_arrivalAt hX hG p2 M3 b hb) ⟨Nat.le_of_ble_eq_true rfl, Nat.le_of_ble_eq_true rfl⟩ ⟨Nat.le_of_ble_eq_true rfl, Nat.le_of_ble_eq_true rfl⟩) (fun x4 _ => ?_)
  refine zk_puti (pc := 26) B kx_2 (gInsertion_s hG) 2 (by decide) kf_2_59 rfl rfl rfl rfl dX2_keep_26 ?_
  refine zk_lm (fun M5 => ?_)
  refine zk_aload_n (pc := 29) B dX2_keep_29 0 rfl rfl ?_
  refine zk_iload_n (pc := 30) B dX2_keep_30 2 rfl rfl ?_
  refine zk_puti (pc := 31) B kx_2 (gInsertion_s hG) 3 (by decide) kf_2_62 rfl rfl rfl rfl dX2_keep_31 ?_
  refine zk_lm (fun M6 => ?_)
  refine zk_aload_n (pc := 34) B dX2_keep_34 0 rfl rfl ?_
  refine zk_iload_n (pc := 35) B dX2_keep_35 3 rfl rfl ?_
  refine zk_puti (pc := 36) B kx_2 (gInsertion_s hG) 4 (by decide) kf_2_65 rfl rfl rfl rfl dX2_keep_36 ?_
  refine zk_lm (fun M7 => ?_)
  exact zk_vret (pc := 39) B dX2_keep_39 rfl (Nat.le_of_ble_eq_true rfl) (Nat.le_of_ble_eq_true rfl) rfl
set_option maxHeartbeats 4000000 in
set_option maxRecDepth 100000 in
theorem m_Insertion_findBest {X : z_X} (hX : z_ok X) {G : z_Gr} {o : Nat} (hG : g_Sys G o) {r0 : Nat} (hr0 : g_Taxi G r0) (p1 : Int32) (M : z_Mem) (b : Int32 × z_Mem) (h : F_Insertion_findBest o r0 p1 M = some b) : z_Ct X yX2_findBest cX2_findBest 11 (some .boolean) ({ frames := 4, cells := 0, slots := 0, locals := 109 } : Room) [.ref (o + 494), .ref r0, .int p1] G M (fun o9 G9 M9 => G9 = G ∧ (o9, M9) = z_cim b) := by
  refine z_enter hX (by decide) (Nat.le_of_ble_eq_true rfl) h (fun F B hR => ?_)
  have L54 : ∀ (nf54 : Nat), ∀ (u1 : Nat) (hu1 : g_Taxi G u1) (v2 : Int32) (v3 : Int32) (v4 : Int32) (v6 : Int32) (v7 : Int32) (M : z_Mem), z_K X F 11 0 0 G z_cim b 0 0 54 [(0, .ref (o + 494)), (1, .ref u1), (2, .int v2), (3, .int v3), (4, .int v4), (6, .int v6), (7, .int v7)] [] M (F_Insertion_findBest_L54 o nf54 u1 v2 v3 v4 v6 v7 M) := by
    intro nf54
    induction nf54 with
    | zero => intro u1 hu1 v2 v3 v4 v6 v7 M; exact zk_none
    | succ nf54 ih54 =>
      have L66 : ∀ (nf66 : Nat), ∀ (u1 : Nat) (hu1 : g_Taxi G u1) (v2 : Int32) (v3 : Int32) (v4 : Int32) (v6 : Int32) (v7 : Int32) (v8 : Int32) (M : z_Mem), z_K X F 11 0 0 G z_cim b 0 0 66 [(0, .ref (o + 494)), (1, .ref u1), (2, .int v2), (3, .int v3), (4, .int v4), (6, .int v6), (7, .int v7), (8, .int v8)] [] M (F_Insertion_findBest_L66 o (F_Insertion_findBest_L54 o nf54) nf66 u1 v2 v3 v4 v6 v7 v8 M) := by
        intro nf66
        induction nf66 with
        | zero => intro u1 hu1 v2 v3 v4 v6 v7 v8 M; exact zk_none
        | succ nf66 ih66 =>
          have J125 : ∀ (u1 : Nat) (hu1 : g_Taxi G u1) (v2 : Int32) (v3 : Int32) (v4 : Int32) (v6 : Int32) (v7 : Int32) (v8 : Int32) (v9 : Int32) (s0 : Int32) (M : z_Mem), z_K X F 11 0 0 G z_cim b 0 0 125 [(0, .ref (o + 494)), (1, .ref u1), (2, .int v2), (3, .int v3), (4, .int v4), (6, .int v6), (7, .int v7), (8, .int v8), (9, .int v9)] [.int s0] M (F_Insertion_findBest_J125 o (F_Insertion_findBest_L54 o nf54) (F_Insertion_findBest_L66 o (F_Insertion_findBest_L54 o nf54) nf66) u1 v2 v3 v4 v6 v7 v8 v9 s0 M) := by
            intro u1 hu1 v2 v3 v4 v6 v7 v8 v9 s0 M
            unfold F_Insertion_findBest_J125
            refine zk_istore (loc' := [(10, .int s0), (0, .ref (o + 494)), (1, .ref u1), (2, .int v2), (3, .int v3), (4, .int v4), (6, .int v6), (7, .int v7), (8, .int v8), (9, .int v9)]) (pc := 125) B dX2_findBest_125 (by decide) rfl ?_
            refine zk_iload (pc := 127) B dX2_findBest_127 0 rfl ?_
            refine zk_if_eq (tgt := 156) (pc := 129) B dX2_findBest_129 (by decide) (fun _ => ?_) (fun _ => ?_)
            · refine zk_iinc (y := 1) (lf := fun x11 => [(8, .int x11), (10, .int s0), (0, .ref (o + 494)), (1, .ref u1), (2, .int v2), (3, .int v3), (4, .int v4), (6, .int v6), (7, .int v7), (9, .int v9)]) (pc := 156) B dX2_findBest_156 8 rfl (by decide) (by decide) (fun _ => rfl) (fun x11 => ?_)
              refine zk_goto (tgt := 66) (pc := 159) B dX2_findBest_159 (by decide) ?_
              refine zk_sub [2, 3, 4, 5, 6, 7, 8, 0] rfl ?_
              exact ih66 u1 hu1 v2 v3 v4 v6 v7 x11 M
            · refine zk_aload_n (pc := 132) B dX2_findBest_132 1 rfl rfl ?_
              refine zk_getr (pc := 133) B kx_2 (gInsertion_s hG) 5 (by decide) kf_2_9 rfl (gInsertion_f5 hG) dX2_findBest_133 ?_
              refine zk_aload_n (pc := 136) B dX2_findBest_136 2 rfl rfl ?_
              refine zk_cim (pc := 137) (k' := 0) (n' := 0) B rfl rfl (Nat.le_of_ble_eq_true rfl) (Nat.le_of_ble_eq_true rfl) (fun b hb => zr_V B hR kV_yX3_keepsLimits km_2_45 kx_3 (gPlan_s hG) [.ref u1] rfl rfl (Nat.le_of_ble_eq_true rfl) dX2_findBest_137 (m_Plan_keepsLimits hX hG hu1 M b hb) ⟨Nat.le_of_ble_eq_true rfl, Nat.le_of_ble_eq_true rfl⟩ ⟨Nat.le_of_ble_eq_true rfl, Nat.le_of_ble_eq_true rfl⟩) (fun x13 M12 => ?_)
              refine zk_if_eq (tgt := 156) (pc := 140) B dX2_findBest_140 (by decide) (fun _ => ?_) (fun _ => ?_)
              · refine zk_iinc (y := 1) (lf := fun x14 => [(8, .int x14), (10, .int s0), (0, .ref (o + 494)), (1, .ref u1), (2, .int v2), (3, .int v3), (4, .int v4), (6, .int v6), (7, .int v7), (9, .int v9)]) (pc := 156) B dX2_findBest_156 8 rfl (by decide) (by decide) (fun _ => rfl) (fun x14 => ?_)
                refine zk_goto (tgt := 66) (pc := 159) B dX2_findBest_159 (by decide) ?_
                refine zk_sub [2, 3, 4, 5, 6, 7, 8, 0] rfl ?_
                exact ih66 u1 hu1 v2 v3 v4 v6 v7 x14 M12
              · refine zk_iconst (v := 1) (pc := 143) B dX2_findBest_143 (by decide) ?_
                refine zk_istore (loc' := [(6, .int 1), (10, .int s0), (0, .ref (o + 494)), (1, .ref u1), (2, .int v2), (3, .int v3), (4, .int v4), (7, .int v7), (8, .int v8), (9, .int v9)]) (pc := 144) B dX2_findBest_144 (by decide) rfl ?_
                refine zk_aload_n (pc := 146) B dX2_findBest_146 2 rfl rfl ?_
                refine zk_iload (pc := 147) B dX2_findBest_147 9 rfl ?_
                refine zk_iload (pc := 149) B dX2_findBest_149 7 rfl ?_
                refine zk_iload (pc := 151) B dX2_findBest_151 8 rfl ?_
                refine zk_cvm (pc := 153) (k' := 0) (n' := 0) B rfl rfl (Nat.le_of_ble_eq_true rfl) (Nat.le_of_ble_eq_true rfl) (fun b hb => zr_V B hR kV_yX2_keep km_2_49 kx_2 (gInsertion_s hG) [.int v9, .int v7, .int v8] rfl rfl (Nat.le_of_ble_eq_true rfl) dX2_findBest_153 (m_Insertion_keep hX hG v9 v7 v8 M12 b hb) ⟨Nat.le_of_ble_eq_true rfl, Nat.le_of_ble_eq_true rfl⟩ ⟨Nat.le_of_ble_eq_true rfl, Nat.le_of_ble_eq_true rfl⟩) (fun M15 => ?_)
                refine zk_iinc (y := 1) (lf := fun x16 => [(8, .int x16), (6, .int 1), (10, .int s0), (0, .ref (o + 494)), (1, .ref u1), (2, .int v2), (3, .int v3), (4, .int v4), (7, .int v7), (9, .int v9)]) (pc := 156) B dX2_findBest_156 8 rfl (by decide) (by decide) (fun _ => rfl) (fun x16 => ?_)
                refine zk_goto (tgt := 66) (pc := 159) B dX2_findBest_159 (by decide) ?_
                refine zk_sub [3, 4, 5, 6, 7, 1, 8, 0] rfl ?_
                exact ih66 u1 hu1 v2 v3 v4 1 v7 x16 M15
          have J120 : ∀ (u1 : Nat) (hu1 : g_Taxi G u1) (v2 : Int32) (v3 : Int32) (v4 : Int32) (v6 : Int32) (v7 : Int32) (v8 : Int32) (v9 : Int32) (M : z_Mem), z_K X F 11 0 0 G z_cim b 0 0 120 [(0, .ref (o + 494)), (1, .ref u1), (2, .int v2), (3, .int v3), (4, .int v4), (6, .int v6), (7, .int v7), (8, .int v8), (9, .int v9)] [] M (F_Insertion_findBest_J120 o (F_Insertion_findBest_L54 o nf54) (F_Insertion_findBest_L66 o (F_Insertion_findBest_L54 o nf54) nf66) u1 v2 v3 v4 v6 v7 v8 v9 M) := by
            intro u1 hu1 v2 v3 v4 v6 v7 v8 v9 M
            unfold F_Insertion_findBest_J120
            refine zk_iconst (v := 1) (pc := 120) B dX2_findBest_120 (by decide) ?_
            refine zk_goto (tgt := 125) (pc := 121) B dX2_findBest_121 (by decide) ?_
            exact J125 u1 hu1 v2 v3 v4 v6 v7 v8 v9 1 M
          intro u1 hu1 v2 v3 v4 v6 v7 v8 M
          show z_K X F 11 0 0 G z_cim b 0 0 66 [(0, .ref (o + 494)), (1, .ref u1), (2, .int v2), (3, .int v3), (4, .int v4), (6, .int v6), (7, .int v7), (8, .int v8)] [] M (F_Insertion_findBest_B66 o (F_Insertion_findBest_L54 o nf54) (F_Insertion_findBest_L66 o (F_Insertion_findBest_L54 o nf54) nf66) u1 v2 v3 v4 v6 v7 v8 M)
          unfold F_Insertion_findBest_B66
          refine zk_iload (pc := 66) B dX2_findBest_66 7 rfl ?_
          refine zk_iload_n (pc := 68) B dX2_findBest_68 3 rfl rfl ?_
          refine zk_icmp_gt (tgt := 162) (pc := 69) B dX2_findBest_69 (by decide) (fun _ => ?_) (fun _ => ?_)
          · refine zk_iinc (y := 1) (lf := fun x6 => [(7, .int x6), (0, .ref (o + 494)), (1, .ref u1), (2, .int v2), (3, .int v3), (4, .int v4), (6, .int v6), (8, .int v8)]) (pc := 162) B dX2_findBest_162 6 rfl (by decide) (by decide) (fun _ => rfl) (fun x6 => ?_)
            refine zk_goto (tgt := 54) (pc := 165) B dX2_findBest_165 (by decide) ?_
            refine zk_sub [1, 2, 3, 4, 5, 6, 0] rfl ?_
            exact ih54 u1 hu1 v2 v3 v4 v6 x6 M
          · refine zk_aload_n (pc := 72) B dX2_findBest_72 0 rfl rfl ?_
            refine zk_getr (pc := 73) B kx_2 (gInsertion_s hG) 5 (by decide) kf_2_9 rfl (gInsertion_f5 hG) dX2_findBest_73 ?_
            refine zk_aload_n (pc := 76) B dX2_findBest_76 1 rfl rfl ?_
            refine zk_iload_n (pc := 77) B dX2_findBest_77 2 rfl rfl ?_
            refine zk_iload (pc := 78) B dX2_findBest_78 6 rfl ?_
            refine zk_iload (pc := 80) B dX2_findBest_80 7 rfl ?_
            refine zk_cvm (pc := 82) (k' := 0) (n' := 0) B rfl rfl (Nat.le_of_ble_eq_true rfl) (Nat.le_of_ble_eq_true rfl) (fun b hb => zr_V B hR kV_yX3_planInsertion km_2_33 kx_3 (gPlan_s hG) [.ref u1, .int v2, .int v7, .int v8] rfl rfl (Nat.le_of_ble_eq_true rfl) dX2_findBest_82 (m_Plan_planInsertion hX hG hu1 v2 v7 v8 M b hb) ⟨Nat.le_of_ble_eq_true rfl, Nat.le_of_ble_eq_true rfl⟩ ⟨Nat.le_of_ble_eq_true rfl, Nat.le_of_ble_eq_true rfl⟩) (fun M7 => ?_)
            refine zk_aload_n (pc := 85) B dX2_findBest_85 0 rfl rfl ?_
            refine zk_getr (pc := 86) B kx_2 (gInsertion_s hG) 5 (by decide) kf_2_9 rfl (gInsertion_f5 hG) dX2_findBest_86 ?_
            refine zk_geti (pc := 89) B kx_3 (gPlan_s hG) 0 (by decide) kf_2_27 rfl dX2_findBest_89 ?_
            refine zk_iload (pc := 92) B dX2_findBest_92 4 rfl ?_
            refine zk_isub (pc := 94) B dX2_findBest_94 ?_
            refine zk_li (fun x8 => ?_)
            refine zk_istore (loc' := [(9, .int x8), (0, .ref (o + 494)), (1, .ref u1), (2, .int v2), (3, .int v3), (4, .int v4), (6, .int v6), (7, .int v7), (8, .int v8)]) (pc := 95) B dX2_findBest_95 (by decide) rfl ?_
            refine zk_iload (pc := 97) B dX2_findBest_97 6 rfl ?_
            refine zk_if_eq (tgt := 120) (pc := 99) B dX2_findBest_99 (by decide) (fun _ => ?_) (fun _ => ?_)
            · refine zk_sub [1, 2, 3, 4, 5, 6, 7, 8, 0] rfl ?_
              exact J120 u1 hu1 v2 v3 v4 v6 v7 v8 x8 M7
            · refine zk_aload_n (pc := 102) B dX2_findBest_102 1 rfl rfl ?_
              refine zk_iload (pc := 103) B dX2_findBest_103 0 rfl ?_
              refine zk_aload_n (pc := 105) B dX2_findBest_105 1 rfl rfl ?_
              refine zk_getr (pc := 106) B kx_2 (gInsertion_s hG) 5 (by decide) kf_2_9 rfl (gInsertion_f5 hG) dX2_findBest_106 ?_
              refine zk_iload (pc := 109) B dX2_findBest_109 7 rfl ?_
              refine zk_cpi (pc := 111) (k' := 0) (n' := 0) B rfl rfl (Nat.le_of_ble_eq_true rfl) (Nat.le_of_ble_eq_true rfl) (fun b hb => zr_V B hR kV_yX3_arrivalAt km_2_37 kx_3 (gPlan_s hG) [.int v7] rfl rfl (Nat.le_of_ble_eq_true rfl) dX2_findBest_111 (m_Plan_arrivalAt hX hG v7 M7 b hb) ⟨Nat.le_of_ble_eq_true rfl, Nat.le_of_ble_eq_true rfl⟩ ⟨Nat.le_of_ble_eq_true rfl, Nat.le_of_ble_eq_true rfl⟩) (fun x9 _ => ?_)
              refine zk_cpi (pc := 114) (k' := 0) (n' := 0) B rfl rfl (Nat.le_of_ble_eq_true rfl) (Nat.le_of_ble_eq_true rfl) (fun b hb => zr_V B hR kV_yX2_isAsGoodAs km_2_41 kx_2 (gInsertion_s hG) [.int x8, .int x9] rfl rfl (Nat.le_of_ble_eq_true rfl) dX2_findBest_114 (m_Insertion_isAsGoodAs hX hG x8 x9 M7 b hb) ⟨Nat.le_of_ble_eq_true rfl, Nat.le_of_ble_eq_true rfl⟩ ⟨Nat.le_of_ble_eq_true rfl, Nat.le_of_ble_eq_true rfl⟩) (fun x10 _ => ?_)
              refine zk_if_ne (tgt := 124) (pc := 117) B dX2_findBest_117 (by decide) (fun _ => ?_) (fun _ => ?_)
              · refine zk_iconst (v := 0) (pc := 124) B dX2_findBest_124 (by decide) ?_
                refine zk_sub [1, 2, 3, 4, 5, 6, 7, 8, 0] rfl ?_
                exact J125 u1 hu1 v2 v3 v4 v6 v7 v8 x8 0 M7
              · refine zk_sub [1, 2, 3, 4, 5, 6, 7, 8, 0] rfl ?_
                exact J120 u1 hu1 v2 v3 v4 v6 v7 v8 x8 M7
      intro u1 hu1 v2 v3 v4 v6 v7 M
      show z_K X F 11 0 0 G z_cim b 0 0 54 [(0, .ref (o + 494)), (1, .ref u1), (2, .int v2), (3, .int v3), (4, .int v4), (6, .int v6), (7, .int v7)] [] M (F_Insertion_findBest_B54 o (F_Insertion_findBest_L54 o nf54) u1 v2 v3 v4 v6 v7 M)
      unfold F_Insertion_findBest_B54
      refine zk_iload (pc := 54) B dX2_findBest_54 6 rfl ?_
      refine zk_iload_n (pc := 56) B dX2_findBest_56 3 rfl rfl ?_
      refine zk_icmp_ge (tgt := 168) (pc := 57) B dX2_findBest_57 (by decide) (fun _ => ?_) (fun _ => ?_)
      · refine zk_iload (pc := 168) B dX2_findBest_168 5 rfl ?_
        exact zk_chk (fun h4 => zk_iret (pc := 170) B dX2_findBest_170 rfl (z_n01 h4) (Nat.le_of_ble_eq_true rfl) (Nat.le_of_ble_eq_true rfl) rfl)
      · refine zk_iload (pc := 60) B dX2_findBest_60 6 rfl ?_
        refine zk_iconst (v := 1) (pc := 62) B dX2_findBest_62 (by decide) ?_
        refine zk_iadd (pc := 63) B dX2_findBest_63 ?_
        refine zk_li (fun x5 => ?_)
        refine zk_istore (loc' := [(8, .int x5), (0, .ref (o + 494)), (1, .ref u1), (2, .int v2), (3, .int v3), (4, .int v4), (6, .int v6), (7, .int v7)]) (pc := 64) B dX2_findBest_64 (by decide) rfl ?_
        refine zk_sub [1, 2, 3, 4, 5, 6, 7, 0] rfl ?_
        exact L66 10000 u1 hu1 v2 v3 v4 v6 v7 x5 M
  have J45 : ∀ (u1 : Nat) (hu1 : g_Taxi G u1) (v2 : Int32) (v3 : Int32) (v4 : Int32) (s0 : Int32) (M : z_Mem), z_K X F 11 0 0 G z_cim b 0 0 45 [(0, .ref (o + 494)), (1, .ref u1), (2, .int v2), (3, .int v3), (4, .int v4)] [.int s0] M (F_Insertion_findBest_J45 o u1 v2 v3 v4 s0 M) := by
    intro u1 hu1 v2 v3 v4 s0 M
    unfold F_Insertion_findBest_J45
    refine zk_istore (loc' := [(5, .int s0), (0, .ref (o + 494)), (1, .ref u1), (2, .int v2), (3, .int v3), (4, .int v4)]) (pc := 45) B dX2_findBest_45 (by decide) rfl ?_
    refine zk_iconst (v := 0) (pc := 47) B dX2_findBest_47 (by decide) ?_
    refine zk_istore (loc' := [(6, .int 0), (5, .int s0), (0, .ref (o + 494)), (1, .ref u1), (2, .int v2), (3, .int v3), (4, .int v4)]) (pc := 48) B dX2_findBest_48 (by decide) rfl ?_
    refine zk_iload (pc := 50) B dX2_findBest_50 1 rfl ?_
    refine zk_istore (loc' := [(7, .int s0), (6, .int 0), (5, .int s0), (0, .ref (o + 494)), (1, .ref u1), (2, .int v2), (3, .int v3), (4, .int v4)]) (pc := 52) B dX2_findBest_52 (by decide) rfl ?_
    refine zk_sub [3, 4, 5, 6, 7, 1, 0] rfl ?_
    exact L54 10000 u1 hu1 v2 v3 v4 0 s0 M
  show z_K X F 11 0 0 G z_cim b 0 0 0 [(0, .ref (o + 494)), (1, .ref r0), (2, .int p1)] [] M (F_Insertion_findBest o r0 p1 M)
  unfold F_Insertion_findBest
  refine zk_aload_n (pc := 0) B dX2_findBest_0 1 rfl rfl ?_
  refine zk_geti (pc := 1) B kx_6 (gTaxi_s hr0) 7 (by decide) kf_2_15 rfl dX2_findBest_1 ?_
  refine zk_iconst (v := 1) (pc := 4) B dX2_findBest_4 (by decide) ?_
  refine zk_iadd (pc := 5) B dX2_findBest_5 ?_
  refine zk_li (fun x1 => ?_)
  refine zk_istore_n (loc' := [(3, .int x1), (0, .ref (o + 494)), (1, .ref r0), (2, .int p1)]) (pc := 6) B dX2_findBest_6 rfl (by decide) rfl ?_
  refine zk_iload_n (pc := 7) B dX2_findBest_7 0 rfl rfl ?_
  refine zk_bipush (v := 12) (pc := 8) B dX2_findBest_8 (by decide) ?_
  refine zk_icmp_lt (tgt := 15) (pc := 10) B dX2_findBest_10 (by decide) (fun _ => ?_) (fun _ => ?_)
  · refine zk_aload_n (pc := 15) B dX2_findBest_15 1 rfl rfl ?_
    refine zk_getr (pc := 16) B kx_2 (gInsertion_s hG) 5 (by decide) kf_2_9 rfl (gInsertion_f5 hG) dX2_findBest_16 ?_
    refine zk_aload_n (pc := 19) B dX2_findBest_19 2 rfl rfl ?_
    refine zk_cvm (pc := 20) (k' := 0) (n' := 0) B rfl rfl (Nat.le_of_ble_eq_true rfl) (Nat.le_of_ble_eq_true rfl) (fun b hb => zr_V B hR kV_yX3_planRoute km_2_21 kx_3 (gPlan_s hG) [.ref r0] rfl rfl (Nat.le_of_ble_eq_true rfl) dX2_findBest_20 (m_Plan_planRoute hX hG hr0 M b hb) ⟨Nat.le_of_ble_eq_true rfl, Nat.le_of_ble_eq_true rfl⟩ ⟨Nat.le_of_ble_eq_true rfl, Nat.le_of_ble_eq_true rfl⟩) (fun M2 => ?_)
    refine zk_aload_n (pc := 23) B dX2_findBest_23 1 rfl rfl ?_
    refine zk_getr (pc := 24) B kx_2 (gInsertion_s hG) 5 (by decide) kf_2_9 rfl (gInsertion_f5 hG) dX2_findBest_24 ?_
    refine zk_geti (pc := 27) B kx_3 (gPlan_s hG) 0 (by decide) kf_2_27 rfl dX2_findBest_27 ?_
    refine zk_li (fun x3 => ?_)
    refine zk_istore (loc' := [(4, .int x3), (3, .int x1), (0, .ref (o + 494)), (1, .ref r0), (2, .int p1)]) (pc := 30) B dX2_findBest_30 (by decide) rfl ?_
    refine zk_aload_n (pc := 32) B dX2_findBest_32 3 rfl rfl ?_
    refine zk_geti (pc := 33) B kx_6 (gTaxi_s hr0) 6 (by decide) kf_2_30 rfl dX2_findBest_33 ?_
    refine zk_iconst (v := (-1)) (pc := 36) B dX2_findBest_36 (by decide) ?_
    refine zk_icmp_ne (tgt := 44) (pc := 37) B dX2_findBest_37 (by decide) (fun _ => ?_) (fun _ => ?_)
    · refine zk_iconst (v := 1) (pc := 44) B dX2_findBest_44 (by decide) ?_
      refine zk_sub [2, 3, 4, 1, 0] rfl ?_
      exact J45 r0 hr0 p1 x1 x3 1 M2
    · refine zk_iconst (v := 0) (pc := 40) B dX2_findBest_40 (by decide) ?_
      refine zk_goto (tgt := 45) (pc := 41) B dX2_findBest_41 (by decide) ?_
      refine zk_sub [2, 3, 4, 1, 0] rfl ?_
      exact J45 r0 hr0 p1 x1 x3 0 M2
  · refine zk_iconst (v := 0) (pc := 13) B dX2_findBest_13 (by decide) ?_
    exact zk_iret (pc := 14) B dX2_findBest_14 rfl rfl (Nat.le_of_ble_eq_true rfl) (Nat.le_of_ble_eq_true rfl) rfl
set_option maxHeartbeats 4000000 in
set_option maxRecDepth 100000 in
theorem m_Insertion_isBetterThan {X : z_X} (hX : z_ok X) {G : z_Gr} {o : Nat} (hG : g_Sys G o) (p0 : Int32) (p1 : Int32) (M : z_Mem) (b : Int32) (h : F_Insertion_isBetterThan o p0 p1 M = some b) : z_Ct X yX2_isBetterThan cX2_isBetterThan 3 (some .boolean) ({ frames := 0, cells := 0, slots := 0, locals := 0 } : Room) [.ref (o + 494), .int p0, .int p1] G M (fun o9 G9 M9 => G9 = G ∧ (o9, M9) = (z_ci M) b) := by
  refine z_enter hX (by decide) (Nat.le_of_ble_eq_true rfl) h (fun F B hR => ?_)
  have J24 : z_K X F 3 0 0 G (z_ci M) b 0 0 24 [] [] M (F_Insertion_isBetterThan_J24 o M) := by
    unfold F_Insertion_isBetterThan_J24
    refine zk_iconst (v := 1) (pc := 24) B dX2_isBetterThan_24 (by decide) ?_
    refine zk_goto (tgt := 29) (pc := 25) B dX2_isBetterThan_25 (by decide) ?_
    exact zk_iret (pc := 29) B dX2_isBetterThan_29 rfl rfl (Nat.le_of_ble_eq_true rfl) (Nat.le_of_ble_eq_true rfl) rfl
  show z_K X F 3 0 0 G (z_ci M) b 0 0 0 [(0, .ref (o + 494)), (1, .int p0), (2, .int p1)] [] M (F_Insertion_isBetterThan o p0 p1 M)
  unfold F_Insertion_isBetterThan
  refine zk_aload_n (pc := 0) B dX2_isBetterThan_0 0 rfl rfl ?_
  refine zk_geti (pc := 1) B kx_2 (gInsertion_s hG) 0 (by decide) kf_2_53 rfl dX2_isBetterThan_1 ?_
  refine zk_iload_n (pc := 4) B dX2_isBetterThan_4 1 rfl rfl ?_
  refine zk_icmp_lt (tgt := 24) (pc := 5) B dX2_isBetterThan_5 (by decide) (fun _ => ?_) (fun _ => ?_)
  · refine zk_sub [] rfl ?_
    exact J24
  · refine zk_aload_n (pc := 8) B dX2_isBetterThan_8 0 rfl rfl ?_
    refine zk_geti (pc := 9) B kx_2 (gInsertion_s hG) 0 (by decide) kf_2_53 rfl dX2_isBetterThan_9 ?_
    refine zk_iload_n (pc := 12) B dX2_isBetterThan_12 1 rfl rfl ?_
    refine zk_icmp_ne (tgt := 28) (pc := 13) B dX2_isBetterThan_13 (by decide) (fun _ => ?_) (fun _ => ?_)
    · refine zk_iconst (v := 0) (pc := 28) B dX2_isBetterThan_28 (by decide) ?_
      exact zk_iret (pc := 29) B dX2_isBetterThan_29 rfl rfl (Nat.le_of_ble_eq_true rfl) (Nat.le_of_ble_eq_true rfl) rfl
    · refine zk_aload_n (pc := 16) B dX2_isBetterThan_16 0 rfl rfl ?_
      refine zk_geti (pc := 17) B kx_2 (gInsertion_s hG) 1 (by decide) kf_2_56 rfl dX2_isBetterThan_17 ?_
      refine zk_iload_n (pc := 20) B dX2_isBetterThan_20 2 rfl rfl ?_
      refine zk_icmp_ge (tgt := 28) (pc := 21) B dX2_isBetterThan_21 (by decide) (fun _ => ?_) (fun _ => ?_)
      · refine zk_iconst (v := 0) (pc := 28) B dX2_isBetterThan_28 (by decide) ?_
        exact zk_iret (pc := 29) B dX2_isBetterThan_29 rfl rfl (Nat.le_of_ble_eq_true rfl) (Nat.le_of_ble_eq_true rfl) rfl
      · refine zk_sub [] rfl ?_
        exact J24
set_option maxHeartbeats 4000000 in
set_option maxRecDepth 100000 in
theorem m_Plan_wayTo {X : z_X} (hX : z_ok X) {G : z_Gr} {o : Nat} (hG : g_Sys G o) (p0 : Int32) (M : z_Mem) (b : Int32) (h : F_Plan_wayTo o p0 M = some b) : z_Ct X yX3_wayTo cX3_wayTo 2 (some .int) ({ frames := 1, cells := 0, slots := 0, locals := 21 } : Room) [.ref (o + 487), .int p0] G M (fun o9 G9 M9 => G9 = G ∧ (o9, M9) = (z_ci M) b) := by
  refine z_enter hX (by decide) (Nat.le_of_ble_eq_true rfl) h (fun F B hR => ?_)
  show z_K X F 2 0 0 G (z_ci M) b 0 0 0 [(0, .ref (o + 487)), (1, .int p0)] [] M (F_Plan_wayTo o p0 M)
  unfold F_Plan_wayTo
  refine zk_aload_n (pc := 0) B dX3_wayTo_0 0 rfl rfl ?_
  refine zk_iload_n (pc := 1) B dX3_wayTo_1 1 rfl rfl ?_
  refine zk_cpi (pc := 2) (k' := 0) (n' := 0) B rfl rfl (Nat.le_of_ble_eq_true rfl) (Nat.le_of_ble_eq_true rfl) (fun b hb => zr_V B hR kV_yX3_hasPlace km_3_38 kx_3 (gPlan_s hG) [.int p0] rfl rfl (Nat.le_of_ble_eq_true rfl) dX3_wayTo_2 (m_Plan_hasPlace hX hG p0 M b hb) ⟨Nat.le_of_ble_eq_true rfl, Nat.le_of_ble_eq_true rfl⟩ ⟨Nat.le_of_ble_eq_true rfl, Nat.le_of_ble_eq_true rfl⟩) (fun x1 _ => ?_)
  refine zk_if_eq (tgt := 17) (pc := 5) B dX3_wayTo_5 (by decide) (fun _ => ?_) (fun _ => ?_)
  · refine zk_iconst (v := (-1)) (pc := 17) B dX3_wayTo_17 (by decide) ?_
    exact zk_iret (pc := 18) B dX3_wayTo_18 rfl rfl (Nat.le_of_ble_eq_true rfl) (Nat.le_of_ble_eq_true rfl) rfl
  · refine zk_aload_n (pc := 8) B dX3_wayTo_8 0 rfl rfl ?_
    refine zk_getr (pc := 9) B kx_3 (gPlan_s hG) 6 (by decide) kf_3_15 rfl (gPlan_f6 hG) dX3_wayTo_9 ?_
    refine zk_iload_n (pc := 12) B dX3_wayTo_12 1 rfl rfl ?_
    refine zk_iald (pc := 13) B (gPlan_t6 hG) dX3_wayTo_13 ?_
    refine zk_goto (tgt := 18) (pc := 14) B dX3_wayTo_14 (by decide) ?_
    exact zk_iret (pc := 18) B dX3_wayTo_18 rfl rfl (Nat.le_of_ble_eq_true rfl) (Nat.le_of_ble_eq_true rfl) rfl
set_option maxHeartbeats 4000000 in
set_option maxRecDepth 100000 in
theorem m_Plan_leavingAt {X : z_X} (hX : z_ok X) {G : z_Gr} {o : Nat} (hG : g_Sys G o) (p0 : Int32) (M : z_Mem) (b : Int32) (h : F_Plan_leavingAt o p0 M = some b) : z_Ct X yX3_leavingAt cX3_leavingAt 2 (some .int) ({ frames := 1, cells := 0, slots := 0, locals := 21 } : Room) [.ref (o + 487), .int p0] G M (fun o9 G9 M9 => G9 = G ∧ (o9, M9) = (z_ci M) b) := by
  refine z_enter hX (by decide) (Nat.le_of_ble_eq_true rfl) h (fun F B hR => ?_)
  show z_K X F 2 0 0 G (z_ci M) b 0 0 0 [(0, .ref (o + 487)), (1, .int p0)] [] M (F_Plan_leavingAt o p0 M)
  unfold F_Plan_leavingAt
  refine zk_aload_n (pc := 0) B dX3_leavingAt_0 0 rfl rfl ?_
  refine zk_iload_n (pc := 1) B dX3_leavingAt_1 1 rfl rfl ?_
  refine zk_cpi (pc := 2) (k' := 0) (n' := 0) B rfl rfl (Nat.le_of_ble_eq_true rfl) (Nat.le_of_ble_eq_true rfl) (fun b hb => zr_V B hR kV_yX3_hasPlace km_3_38 kx_3 (gPlan_s hG) [.int p0] rfl rfl (Nat.le_of_ble_eq_true rfl) dX3_leavingAt_2 (m_Plan_hasPlace hX hG p0 M b hb) ⟨Nat.le_of_ble_eq_true rfl, Nat.le_of_ble_eq_true rfl⟩ ⟨Nat.le_of_ble_eq_true rfl, Nat.le_of_ble_eq_true rfl⟩) (fun x1 _ => ?_)
  refine zk_if_eq (tgt := 17) (pc := 5) B dX3_leavingAt_5 (by decide) (fun _ => ?_) (fun _ => ?_)
  · refine zk_iconst (v := (-1)) (pc := 17) B dX3_leavingAt_17 (by decide) ?_
    exact zk_iret (pc := 18) B dX3_leavingAt_18 rfl rfl (Nat.le_of_ble_eq_true rfl) (Nat.le_of_ble_eq_true rfl) rfl
  · refine zk_aload_n (pc := 8) B dX3_leavingAt_8 0 rfl rfl ?_
    refine zk_getr (pc := 9) B kx_3 (gPlan_s hG) 7 (by decide) kf_3_18 rfl (gPlan_f7 hG) dX3_leavingAt_9 ?_
    refine zk_iload_n (pc := 12) B dX3_leavingAt_12 1 rfl rfl ?_
    refine zk_iald (pc := 13) B (gPlan_t7 hG) dX3_leavingAt_13 ?_
    refine zk_goto (tgt := 18) (pc := 14) B dX3_leavingAt_14 (by decide) ?_
    exact zk_iret (pc := 18) B dX3_leavingAt_18 rfl rfl (Nat.le_of_ble_eq_true rfl) (Nat.le_of_ble_eq_true rfl) rfl
set_option maxHeartbeats 4000000 in
set_option maxRecDepth 100000 in
theorem m_Tokens_fail {X : z_X} (hX : z_ok X) {G : z_Gr} {o : Nat} (hG : g_Sys G o) (p0 : Int32) (M : z_Mem) (b : z_Mem) (h : F_Tokens_fail o p0 M = some b) : z_Ct X yX8_fail cX8_fail 2 none ({ frames := 0, cells := 0, slots := 0, locals := 0 } : Room) [.ref (o + 499), .int p0] G M (fun o9 G9 M9 => G9 = G ∧ (o9, M9) = z_cvm b) := by
  refine z_enter hX (by decide) (Nat.le_of_ble_eq_true rfl) h (fun F B hR => ?_)
  show z_K X F 2 0 0 G z_cvm b 0 0 0 [(0, .ref (o + 499)), (1, .int p0)] [] M (F_Tokens_fail o p0 M)
  unfold F_Tokens_fail
  refine zk_aload_n (pc := 0) B dX8_fail_0 0 rfl rfl ?_
  refine zk_geti (pc := 1) B kx_8 (gTokens_s hG) 0 (by decide) kf_8_32 rfl dX8_fail_1 ?_
  refine zk_if_ne (tgt := 42) (pc := 4) B dX8_fail_4 (by decide) (fun _ => ?_) (fun _ => ?_)
  · exact zk_vret (pc := 42) B dX8_fail_42 rfl (Nat.le_of_ble_eq_true rfl) (Nat.le_of_ble_eq_true rfl) rfl
  · refine zk_aload_n (pc := 7) B dX8_fail_7 0 rfl rfl ?_
    refine zk_geti (pc := 8) B kx_8 (gTokens_s hG) 8 (by decide) kf_8_56 rfl dX8_fail_8 ?_
    refine zk_if_lt (tgt := 42) (pc := 11) B dX8_fail_11 (by decide) (fun _ => ?_) (fun _ => ?_)
    · exact zk_vret (pc := 42) B dX8_fail_42 rfl (Nat.le_of_ble_eq_true rfl) (Nat.le_of_ble_eq_true rfl) rfl
    · refine zk_aload_n (pc := 14) B dX8_fail_14 0 rfl rfl ?_
      refine zk_geti (pc := 15) B kx_8 (gTokens_s hG) 8 (by decide) kf_8_56 rfl dX8_fail_15 ?_
      refine zk_sipush (v := 800) (pc := 18) B dX8_fail_18 (by decide) ?_
      refine zk_icmp_gt (tgt := 42) (pc := 21) B dX8_fail_21 (by decide) (fun _ => ?_) (fun _ => ?_)
      · exact zk_vret (pc := 42) B dX8_fail_42 rfl (Nat.le_of_ble_eq_true rfl) (Nat.le_of_ble_eq_true rfl) rfl
      · refine zk_aload_n (pc := 24) B dX8_fail_24 0 rfl rfl ?_
        refine zk_iload_n (pc := 25) B dX8_fail_25 1 rfl rfl ?_
        refine zk_puti (pc := 26) B kx_8 (gTokens_s hG) 0 (by decide) kf_8_32 rfl rfl rfl rfl dX8_fail_26 ?_
        refine zk_lm (fun M1 => ?_)
        refine zk_aload_n (pc := 29) B dX8_fail_29 0 rfl rfl ?_
        refine zk_aload_n (pc := 30) B dX8_fail_30 0 rfl rfl ?_
        refine zk_getr (pc := 31) B kx_8 (gTokens_s hG) 4 (by decide) kf_8_19 rfl (gTokens_f4 hG) dX8_fail_31 ?_
        refine zk_aload_n (pc := 34) B dX8_fail_34 0 rfl rfl ?_
        refine zk_geti (pc := 35) B kx_8 (gTokens_s hG) 8 (by decide) kf_8_56 rfl dX8_fail_35 ?_
        refine zk_iald (pc := 38) B (gTokens_t4 hG) dX8_fail_38 ?_
        refine zk_puti (pc := 39) B kx_8 (gTokens_s hG) 1 (by decide) kf_8_9 rfl rfl rfl rfl dX8_fail_39 ?_
        refine zk_lm (fun M2 => ?_)
        exact zk_vret (pc := 42) B dX8_fail_42 rfl (Nat.le_of_ble_eq_true rfl) (Nat.le_of_ble_eq_true rfl) rfl
set_option maxHeartbeats 4000000 in
set_option maxRecDepth 100000 in
theorem m_Tokens_next {X : z_X} (hX : z_ok X) {G : z_Gr} {o : Nat} (hG : g_Sys G o) (M : z_Mem) (b : z_Mem) (h : F_Tokens_next o M = some b) : z_Ct X yX8_next cX8_next 2 none ({ frames := 0, cells := 0, slots := 0, locals := 0 } : Room) [.ref (o + 499)] G M (fun o9 G9 M9 => G9 = G ∧ (o9, M9) = z_cvm b) := by
  refine z_enter hX (by decide) (Nat.le_of_ble_eq_true rfl) h (fun F B hR => ?_)
  have J85 : ∀ (s0 : Int32) (M : z_Mem), z_K X F 2 0 0 G z_cvm b 0 0 85 [] [.int s0, .ref (o + 499)] M (F_Tokens_next_J85 o s0 M) := by
    intro s0 M
    unfold F_Tokens_next_J85
    refine zk_puti (pc := 85) B kx_8 (gTokens_s hG) 10 (by decide) kf_8_91 rfl rfl rfl rfl dX8_next_85 ?_
    refine zk_lm (fun M3 => ?_)
    exact zk_vret (pc := 88) B dX8_next_88 rfl (Nat.le_of_ble_eq_true rfl) (Nat.le_of_ble_eq_true rfl) rfl
  have J64 : ∀ (v1 : Int32) (s0 : Int32) (M : z_Mem), z_K X F 2 0 0 G z_cvm b 0 0 64 [(0, .ref (o + 499)), (1, .int v1)] [.int s0, .ref (o + 499)] M (F_Tokens_next_J64 o v1 s0 M) := by
    intro v1 s0 M
    unfold F_Tokens_next_J64
    refine zk_puti (pc := 64) B kx_8 (gTokens_s hG) 9 (by decide) kf_8_88 rfl rfl rfl rfl dX8_next_64 ?_
    refine zk_lm (fun M2 => ?_)
    refine zk_aload_n (pc := 67) B dX8_next_67 0 rfl rfl ?_
    refine zk_iload_n (pc := 68) B dX8_next_68 1 rfl rfl ?_
    refine zk_if_eq (tgt := 84) (pc := 69) B dX8_next_69 (by decide) (fun _ => ?_) (fun _ => ?_)
    · refine zk_iconst (v := 0) (pc := 84) B dX8_next_84 (by decide) ?_
      refine zk_sub [] rfl ?_
      exact J85 0 M2
    · refine zk_aload_n (pc := 72) B dX8_next_72 0 rfl rfl ?_
      refine zk_getr (pc := 73) B kx_8 (gTokens_s hG) 6 (by decide) kf_8_25 rfl (gTokens_f6 hG) dX8_next_73 ?_
      refine zk_aload_n (pc := 76) B dX8_next_76 0 rfl rfl ?_
      refine zk_geti (pc := 77) B kx_8 (gTokens_s hG) 8 (by decide) kf_8_56 rfl dX8_next_77 ?_
      refine zk_iald (pc := 80) B (gTokens_t6 hG) dX8_next_80 ?_
      refine zk_goto (tgt := 85) (pc := 81) B dX8_next_81 (by decide) ?_
      refine zk_sub [] rfl ?_
      exact J85 (M2.1 (o + 503) (M2.1 (o + 499) 8).toNatClampNeg) M2
  have J45 : ∀ (s0 : Int32) (M : z_Mem), z_K X F 2 0 0 G z_cvm b 0 0 45 [(0, .ref (o + 499))] [.int s0] M (F_Tokens_next_J45 o s0 M) := by
    intro s0 M
    unfold F_Tokens_next_J45
    refine zk_istore_n (loc' := [(1, .int s0), (0, .ref (o + 499))]) (pc := 45) B dX8_next_45 rfl (by decide) rfl ?_
    refine zk_aload_n (pc := 46) B dX8_next_46 1 rfl rfl ?_
    refine zk_iload_n (pc := 47) B dX8_next_47 0 rfl rfl ?_
    refine zk_if_eq (tgt := 63) (pc := 48) B dX8_next_48 (by decide) (fun _ => ?_) (fun _ => ?_)
    · refine zk_iconst (v := 4) (pc := 63) B dX8_next_63 (by decide) ?_
      refine zk_sub [1, 0] rfl ?_
      exact J64 s0 4 M
    · refine zk_aload_n (pc := 51) B dX8_next_51 1 rfl rfl ?_
      refine zk_getr (pc := 52) B kx_8 (gTokens_s hG) 3 (by decide) kf_8_15 rfl (gTokens_f3 hG) dX8_next_52 ?_
      refine zk_aload_n (pc := 55) B dX8_next_55 1 rfl rfl ?_
      refine zk_geti (pc := 56) B kx_8 (gTokens_s hG) 8 (by decide) kf_8_56 rfl dX8_next_56 ?_
      refine zk_iald (pc := 59) B (gTokens_t3 hG) dX8_next_59 ?_
      refine zk_goto (tgt := 64) (pc := 60) B dX8_next_60 (by decide) ?_
      refine zk_sub [1, 0] rfl ?_
      exact J64 s0 (M.1 (o + 500) (M.1 (o + 499) 8).toNatClampNeg) M
  have J44 : ∀  (M : z_Mem), z_K X F 2 0 0 G z_cvm b 0 0 44 [(0, .ref (o + 499))] [] M (F_Tokens_next_J44 o M) := by
    intro  M
    unfold F_Tokens_next_J44
    refine zk_iconst (v := 0) (pc := 44) B dX8_next_44 (by decide) ?_
    exact J45 0 M
  have J23 : ∀  (M : z_Mem), z_K X F 2 0 0 G z_cvm b 0 0 23 [(0, .ref (o + 499))] [] M (F_Tokens_next_J23 o M) := by
    intro  M
    unfold F_Tokens_next_J23
    refine zk_aload_n (pc := 23) B dX8_next_23 0 rfl rfl ?_
    refine zk_geti (pc := 24) B kx_8 (gTokens_s hG) 8 (by decide) kf_8_56 rfl dX8_next_24 ?_
    refine zk_if_lt (tgt := 44) (pc := 27) B dX8_next_27 (by decide) (fun _ => ?_) (fun _ => ?_)
    · exact J44 M
    · refine zk_aload_n (pc := 30) B dX8_next_30 0 rfl rfl ?_
      refine zk_geti (pc := 31) B kx_8 (gTokens_s hG) 8 (by decide) kf_8_56 rfl dX8_next_31 ?_
      refine zk_sipush (v := 800) (pc := 34) B dX8_next_34 (by decide) ?_
      refine zk_icmp_gt (tgt := 44) (pc := 37) B dX8_next_37 (by decide) (fun _ => ?_) (fun _ => ?_)
      · exact J44 M
      · refine zk_iconst (v := 1) (pc := 40) B dX8_next_40 (by decide) ?_
        refine zk_goto (tgt := 45) (pc := 41) B dX8_next_41 (by decide) ?_
        exact J45 1 M
  show z_K X F 2 0 0 G z_cvm b 0 0 0 [(0, .ref (o + 499))] [] M (F_Tokens_next o M)
  unfold F_Tokens_next
  refine zk_aload_n (pc := 0) B dX8_next_0 0 rfl rfl ?_
  refine zk_geti (pc := 1) B kx_8 (gTokens_s hG) 8 (by decide) kf_8_56 rfl dX8_next_1 ?_
  refine zk_aload_n (pc := 4) B dX8_next_4 0 rfl rfl ?_
  refine zk_geti (pc := 5) B kx_8 (gTokens_s hG) 7 (by decide) kf_8_35 rfl dX8_next_5 ?_
  refine zk_iconst (v := 1) (pc := 8) B dX8_next_8 (by decide) ?_
  refine zk_isub (pc := 9) B dX8_next_9 ?_
  refine zk_icmp_ge (tgt := 23) (pc := 10) B dX8_next_10 (by decide) (fun _ => ?_) (fun _ => ?_)
  · exact J23 M
  · refine zk_aload_n (pc := 13) B dX8_next_13 0 rfl rfl ?_
    refine zk_dup (pc := 14) B dX8_next_14 rfl ?_
    refine zk_geti (pc := 15) B kx_8 (gTokens_s hG) 8 (by decide) kf_8_56 rfl dX8_next_15 ?_
    refine zk_iconst (v := 1) (pc := 18) B dX8_next_18 (by decide) ?_
    refine zk_iadd (pc := 19) B dX8_next_19 ?_
    refine zk_puti (pc := 20) B kx_8 (gTokens_s hG) 8 (by decide) kf_8_56 rfl rfl rfl rfl dX8_next_20 ?_
    refine zk_lm (fun M1 => ?_)
    exact J23 M1
set_option maxHeartbeats 4000000 in
set_option maxRecDepth 100000 in
theorem m_Tokens_takeWord {X : z_X} (hX : z_ok X) {G : z_Gr} {o : Nat} (hG : g_Sys G o) (p0 : Int32) (p1 : Int32) (M : z_Mem) (b : Int32 × z_Mem) (h : F_Tokens_takeWord o p0 p1 M = some b) : z_Ct X yX8_takeWord cX8_takeWord 4 (some .int) ({ frames := 1, cells := 0, slots := 0, locals := 21 } : Room) [.ref (o + 499), .int p0, .int p1] G M (fun o9 G9 M9 => G9 = G ∧ (o9, M9) = z_cim b) := by
  refine z_enter hX (by decide) (Nat.le_of_ble_eq_true rfl) h (fun F B hR => ?_)
  have J24 : ∀  (M : z_Mem), z_K X F 4 0 0 G z_cim b 0 0 24 [(0, .ref (o + 499))] [] M (F_Tokens_takeWord_J24 o M) := by
    intro  M
    unfold F_Tokens_takeWord_J24
    refine zk_aload_n (pc := 24) B dX8_takeWord_24 0 rfl rfl ?_
    refine zk_iconst (v := 1) (pc := 25) B dX8_takeWord_25 (by decide) ?_
    refine zk_cvm (pc := 26) (k' := 0) (n' := 0) B rfl rfl (Nat.le_of_ble_eq_true rfl) (Nat.le_of_ble_eq_true rfl) (fun b hb => zr_V B hR kV_yX8_fail km_8_94 kx_8 (gTokens_s hG) [.int 1] rfl rfl (Nat.le_of_ble_eq_true rfl) dX8_takeWord_26 (m_Tokens_fail hX hG 1 M b hb) ⟨Nat.le_of_ble_eq_true rfl, Nat.le_of_ble_eq_true rfl⟩ ⟨Nat.le_of_ble_eq_true rfl, Nat.le_of_ble_eq_true rfl⟩) (fun M3 => ?_)
    refine zk_iconst (v := (-1)) (pc := 29) B dX8_takeWord_29 (by decide) ?_
    exact zk_iret (pc := 30) B dX8_takeWord_30 rfl rfl (Nat.le_of_ble_eq_true rfl) (Nat.le_of_ble_eq_true rfl) rfl
  show z_K X F 4 0 0 G z_cim b 0 0 0 [(0, .ref (o + 499)), (1, .int p0), (2, .int p1)] [] M (F_Tokens_takeWord o p0 p1 M)
  unfold F_Tokens_takeWord
  refine zk_aload_n (pc := 0) B dX8_takeWord_0 0 rfl rfl ?_
  refine zk_geti (pc := 1) B kx_8 (gTokens_s hG) 9 (by decide) kf_8_88 rfl dX8_takeWord_1 ?_
  refine zk_iconst (v := 1) (pc := 4) B dX8_takeWord_4 (by decide) ?_
  refine zk_icmp_ne (tgt := 24) (pc := 5) B dX8_takeWord_5 (by decide) (fun _ => ?_) (fun _ => ?_)
  · refine zk_sub [0] rfl ?_
    exact J24 M
  · refine zk_aload_n (pc := 8) B dX8_takeWord_8 0 rfl rfl ?_
    refine zk_geti (pc := 9) B kx_8 (gTokens_s hG) 10 (by decide) kf_8_91 rfl dX8_takeWord_9 ?_
    refine zk_iload_n (pc := 12) B dX8_takeWord_12 1 rfl rfl ?_
    refine zk_icmp_lt (tgt := 24) (pc := 13) B dX8_takeWord_13 (by decide) (fun _ => ?_) (fun _ => ?_)
    · refine zk_sub [0] rfl ?_
      exact J24 M
    · refine zk_aload_n (pc := 16) B dX8_takeWord_16 0 rfl rfl ?_
      refine zk_geti (pc := 17) B kx_8 (gTokens_s hG) 10 (by decide) kf_8_91 rfl dX8_takeWord_17 ?_
      refine zk_iload_n (pc := 20) B dX8_takeWord_20 2 rfl rfl ?_
      refine zk_icmp_le (tgt := 31) (pc := 21) B dX8_takeWord_21 (by decide) (fun _ => ?_) (fun _ => ?_)
      · refine zk_aload_n (pc := 31) B dX8_takeWord_31 0 rfl rfl ?_
        refine zk_geti (pc := 32) B kx_8 (gTokens_s hG) 10 (by decide) kf_8_91 rfl dX8_takeWord_32 ?_
        refine zk_li (fun x1 => ?_)
        refine zk_istore_n (loc' := [(3, .int x1), (0, .ref (o + 499)), (1, .int p0), (2, .int p1)]) (pc := 35) B dX8_takeWord_35 rfl (by decide) rfl ?_
        refine zk_aload_n (pc := 36) B dX8_takeWord_36 1 rfl rfl ?_
        refine zk_cvm (pc := 37) (k' := 0) (n' := 0) B rfl rfl (Nat.le_of_ble_eq_true rfl) (Nat.le_of_ble_eq_true rfl) (fun b hb => zr_V B hR kV_yX8_next km_8_59 kx_8 (gTokens_s hG) [] rfl rfl (Nat.le_of_ble_eq_true rfl) dX8_takeWord_37 (m_Tokens_next hX hG M b hb) ⟨Nat.le_of_ble_eq_true rfl, Nat.le_of_ble_eq_true rfl⟩ ⟨Nat.le_of_ble_eq_true rfl, Nat.le_of_ble_eq_true rfl⟩) (fun M2 => ?_)
        refine zk_iload_n (pc := 40) B dX8_takeWord_40 0 rfl rfl ?_
        exact zk_iret (pc := 41) B dX8_takeWord_41 rfl rfl (Nat.le_of_ble_eq_true rfl) (Nat.le_of_ble_eq_true rfl) rfl
      · refine zk_sub [0] rfl ?_
        exact J24 M
set_option maxHeartbeats 4000000 in
set_option maxRecDepth 100000 in
theorem m_Tokens_isWord {X : z_X} (hX : z_ok X) {G : z_Gr} {o : Nat} (hG : g_Sys G o) (p0 : Int32) (M : z_Mem) (b : Int32) (h : F_Tokens_isWord o p0 M = some b) : z_Ct X yX8_isWord cX8_isWord 2 (some .boolean) ({ frames := 0, cells := 0, slots := 0, locals := 0 } : Room) [.ref (o + 499), .int p0] G M (fun o9 G9 M9 => G9 = G ∧ (o9, M9) = (z_ci M) b) := by
  refine z_enter hX (by decide) (Nat.le_of_ble_eq_true rfl) h (fun F B hR => ?_)
  show z_K X F 2 0 0 G (z_ci M) b 0 0 0 [(0, .ref (o + 499)), (1, .int p0)] [] M (F_Tokens_isWord o p0 M)
  unfold F_Tokens_isWord
  refine zk_aload_n (pc := 0) B dX8_isWord_0 0 rfl rfl ?_
  refine zk_geti (pc := 1) B kx_8 (gTokens_s hG) 9 (by decide) kf_8_88 rfl dX8_isWord_1 ?_
  refine zk_iconst (v := 1) (pc := 4) B dX8_isWord_4 (by decide) ?_
  refine zk_icmp_ne (tgt := 20) (pc := 5) B dX8_isWord_5 (by decide) (fun _ => ?_) (fun _ => ?_)
  · refine zk_iconst (v := 0) (pc := 20) B dX8_isWord_20 (by decide) ?_
    exact zk_iret (pc := 21) B dX8_isWord_21 rfl rfl (Nat.le_of_ble_eq_true rfl) (Nat.le_of_ble_eq_true rfl) rfl
  · refine zk_aload_n (pc := 8) B dX8_isWord_8 0 rfl rfl ?_
    refine zk_geti (pc := 9) B kx_8 (gTokens_s hG) 10 (by decide) kf_8_91 rfl dX8_isWord_9 ?_
    refine zk_iload_n (pc := 12) B dX8_isWord_12 1 rfl rfl ?_
    refine zk_icmp_ne (tgt := 20) (pc := 13) B dX8_isWord_13 (by decide) (fun _ => ?_) (fun _ => ?_)
    · refine zk_iconst (v := 0) (pc := 20) B dX8_isWord_20 (by decide) ?_
      exact zk_iret (pc := 21) B dX8_isWord_21 rfl rfl (Nat.le_of_ble_eq_true rfl) (Nat.le_of_ble_eq_true rfl) rfl
    · refine zk_iconst (v := 1) (pc := 16) B dX8_isWord_16 (by decide) ?_
      refine zk_goto (tgt := 21) (pc := 17) B dX8_isWord_17 (by decide) ?_
      exact zk_iret (pc := 21) B dX8_isWord_21 rfl rfl (Nat.le_of_ble_eq_true rfl) (Nat.le_of_ble_eq_true rfl) rfl
set_option maxHeartbeats 4000000 in
set_option maxRecDepth 100000 in
theorem m_Tokens_isSign {X : z_X} (hX : z_ok X) {G : z_Gr} {o : Nat} (hG : g_Sys G o) (p0 : Int32) (M : z_Mem) (b : Int32) (h : F_Tokens_isSign o p0 M = some b) : z_Ct X yX8_isSign cX8_isSign 2 (some .boolean) ({ frames := 0, cells := 0, slots := 0, locals := 0 } : Room) [.ref (o + 499), .int p0] G M (fun o9 G9 M9 => G9 = G ∧ (o9, M9) = (z_ci M) b) := by
  refine z_enter hX (by decide) (Nat.le_of_ble_eq_true rfl) h (fun F B hR => ?_)
  show z_K X F 2 0 0 G (z_ci M) b 0 0 0 [(0, .ref (o + 499)), (1, .int p0)] [] M (F_Tokens_isSign o p0 M)
  unfold F_Tokens_isSign
  refine zk_aload_n (pc := 0) B dX8_isSign_0 0 rfl rfl ?_
  refine zk_geti (pc := 1) B kx_8 (gTokens_s hG) 9 (by decide) kf_8_88 rfl dX8_isSign_1 ?_
  refine zk_iconst (v := 3) (pc := 4) B dX8_isSign_4 (by decide) ?_
  refine zk_icmp_ne (tgt := 20) (pc := 5) B dX8_isSign_5 (by decide) (fun _ => ?_) (fun _ => ?_)
  · refine zk_iconst (v := 0) (pc := 20) B dX8_isSign_20 (by decide) ?_
    exact zk_iret (pc := 21) B dX8_isSign_21 rfl rfl (Nat.le_of_ble_eq_true rfl) (Nat.le_of_ble_eq_true rfl) rfl
  · refine zk_aload_n (pc := 8) B dX8_isSign_8 0 rfl rfl ?_
    refine zk_geti (pc := 9) B kx_8 (gTokens_s hG) 10 (by decide) kf_8_91 rfl dX8_isSign_9 ?_
    refine zk_iload_n (pc := 12) B dX8_isSign_12 1 rfl rfl ?_
    refine zk_icmp_ne (tgt := 20) (pc := 13) B dX8_isSign_13 (by decide) (fun _ => ?_) (fun _ => ?_)
    · refine zk_iconst (v := 0) (pc := 20) B dX8_isSign_20 (by decide) ?_
      exact zk_iret (pc := 21) B dX8_isSign_21 rfl rfl (Nat.le_of_ble_eq_true rfl) (Nat.le_of_ble_eq_true rfl) rfl
    · refine zk_iconst (v := 1) (pc := 16) B dX8_isSign_16 (by decide) ?_
      refine zk_goto (tgt := 21) (pc := 17) B dX8_isSign_17 (by decide) ?_
      exact zk_iret (pc := 21) B dX8_isSign_21 rfl rfl (Nat.le_of_ble_eq_true rfl) (Nat.le_of_ble_eq_true rfl) rfl
set_option maxHeartbeats 4000000 in
set_option maxRecDepth 100000 in
theorem m_Tokens_isNumber {X : z_X} (hX : z_ok X) {G : z_Gr} {o : Nat} (hG : g_Sys G o) (M : z_Mem) (b : Int32) (h : F_Tokens_isNumber o M = some b) : z_Ct X yX8_isNumber cX8_isNumber 1 (some .boolean) ({ frames := 0, cells := 0, slots := 0, locals := 0 } : Room) [.ref (o + 499)] G M (fun o9 G9 M9 => G9 = G ∧ (o9, M9) = (z_ci M) b) := by
  refine z_enter hX (by decide) (Nat.le_of_ble_eq_true rfl) h (fun F B hR => ?_)
  show z_K X F 1 0 0 G (z_ci M) b 0 0 0 [(0, .ref (o + 499))] [] M (F_Tokens_isNumber o M)
  unfold F_Tokens_isNumber
  refine zk_aload_n (pc := 0) B dX8_isNumber_0 0 rfl rfl ?_
  refine zk_geti (pc := 1) B kx_8 (gTokens_s hG) 9 (by decide) kf_8_88 rfl dX8_isNumber_1 ?_
  refine zk_iconst (v := 2) (pc := 4) B dX8_isNumber_4 (by decide) ?_
  refine zk_icmp_ne (tgt := 12) (pc := 5) B dX8_isNumber_5 (by decide) (fun _ => ?_) (fun _ => ?_)
  · refine zk_iconst (v := 0) (pc := 12) B dX8_isNumber_12 (by decide) ?_
    exact zk_iret (pc := 13) B dX8_isNumber_13 rfl rfl (Nat.le_of_ble_eq_true rfl) (Nat.le_of_ble_eq_true rfl) rfl
  · refine zk_iconst (v := 1) (pc := 8) B dX8_isNumber_8 (by decide) ?_
    refine zk_goto (tgt := 13) (pc := 9) B dX8_isNumber_9 (by decide) ?_
    exact zk_iret (pc := 13) B dX8_isNumber_13 rfl rfl (Nat.le_of_ble_eq_true rfl) (Nat.le_of_ble_eq_true rfl) rfl
set_option maxHeartbeats 4000000 in
set_option maxRecDepth 100000 in
theorem m_Tokens_checkNumber {X : z_X} (hX : z_ok X) {G : z_Gr} {o : Nat} (hG : g_Sys G o) (p0 : Int32) (p1 : Int32) (M : z_Mem) (b : Int32 × z_Mem) (h : F_Tokens_checkNumber o p0 p1 M = some b) : z_Ct X yX8_checkNumber cX8_checkNumber 3 (some .int) ({ frames := 1, cells := 0, slots := 0, locals := 21 } : Room) [.ref (o + 499), .int p0, .int p1] G M (fun o9 G9 M9 => G9 = G ∧ (o9, M9) = z_cim b) := by
  refine z_enter hX (by decide) (Nat.le_of_ble_eq_true rfl) h (fun F B hR => ?_)
  have J31 : ∀  (M : z_Mem), z_K X F 3 0 0 G z_cim b 0 0 31 [(0, .ref (o + 499))] [] M (F_Tokens_checkNumber_J31 o M) := by
    intro  M
    unfold F_Tokens_checkNumber_J31
    refine zk_aload_n (pc := 31) B dX8_checkNumber_31 0 rfl rfl ?_
    refine zk_iconst (v := 2) (pc := 32) B dX8_checkNumber_32 (by decide) ?_
    refine zk_cvm (pc := 33) (k' := 0) (n' := 0) B rfl rfl (Nat.le_of_ble_eq_true rfl) (Nat.le_of_ble_eq_true rfl) (fun b hb => zr_V B hR kV_yX8_fail km_8_94 kx_8 (gTokens_s hG) [.int 2] rfl rfl (Nat.le_of_ble_eq_true rfl) dX8_checkNumber_33 (m_Tokens_fail hX hG 2 M b hb) ⟨Nat.le_of_ble_eq_true rfl, Nat.le_of_ble_eq_true rfl⟩ ⟨Nat.le_of_ble_eq_true rfl, Nat.le_of_ble_eq_true rfl⟩) (fun M2 => ?_)
    refine zk_iconst (v := (-1)) (pc := 36) B dX8_checkNumber_36 (by decide) ?_
    exact zk_iret (pc := 37) B dX8_checkNumber_37 rfl rfl (Nat.le_of_ble_eq_true rfl) (Nat.le_of_ble_eq_true rfl) rfl
  show z_K X F 3 0 0 G z_cim b 0 0 0 [(0, .ref (o + 499)), (1, .int p0), (2, .int p1)] [] M (F_Tokens_checkNumber o p0 p1 M)
  unfold F_Tokens_checkNumber
  refine zk_aload_n (pc := 0) B dX8_checkNumber_0 0 rfl rfl ?_
  refine zk_geti (pc := 1) B kx_8 (gTokens_s hG) 9 (by decide) kf_8_88 rfl dX8_checkNumber_1 ?_
  refine zk_iconst (v := 2) (pc := 4) B dX8_checkNumber_4 (by decide) ?_
  refine zk_icmp_eq (tgt := 15) (pc := 5) B dX8_checkNumber_5 (by decide) (fun _ => ?_) (fun _ => ?_)
  · refine zk_aload_n (pc := 15) B dX8_checkNumber_15 0 rfl rfl ?_
    refine zk_geti (pc := 16) B kx_8 (gTokens_s hG) 10 (by decide) kf_8_91 rfl dX8_checkNumber_16 ?_
    refine zk_iload_n (pc := 19) B dX8_checkNumber_19 1 rfl rfl ?_
    refine zk_icmp_lt (tgt := 31) (pc := 20) B dX8_checkNumber_20 (by decide) (fun _ => ?_) (fun _ => ?_)
    · refine zk_sub [0] rfl ?_
      exact J31 M
    · refine zk_aload_n (pc := 23) B dX8_checkNumber_23 0 rfl rfl ?_
      refine zk_geti (pc := 24) B kx_8 (gTokens_s hG) 10 (by decide) kf_8_91 rfl dX8_checkNumber_24 ?_
      refine zk_iload_n (pc := 27) B dX8_checkNumber_27 2 rfl rfl ?_
      refine zk_icmp_le (tgt := 38) (pc := 28) B dX8_checkNumber_28 (by decide) (fun _ => ?_) (fun _ => ?_)
      · refine zk_aload_n (pc := 38) B dX8_checkNumber_38 0 rfl rfl ?_
        refine zk_geti (pc := 39) B kx_8 (gTokens_s hG) 10 (by decide) kf_8_91 rfl dX8_checkNumber_39 ?_
        exact zk_iret (pc := 42) B dX8_checkNumber_42 rfl rfl (Nat.le_of_ble_eq_true rfl) (Nat.le_of_ble_eq_true rfl) rfl
      · refine zk_sub [0] rfl ?_
        exact J31 M
  · refine zk_aload_n (pc := 8) B dX8_checkNumber_8 0 rfl rfl ?_
    refine zk_iconst (v := 1) (pc := 9) B dX8_checkNumber_9 (by decide) ?_
    refine zk_cvm (pc := 10) (k' := 0) (n' := 0) B rfl rfl (Nat.le_of_ble_eq_true rfl) (Nat.le_of_ble_eq_true rfl) (fun b hb => zr_V B hR kV_yX8_fail km_8_94 kx_8 (gTokens_s hG) [.int 1] rfl rfl (Nat.le_of_ble_eq_true rfl) dX8_checkNumber_10 (m_Tokens_fail hX hG 1 M b hb) ⟨Nat.le_of_ble_eq_true rfl, Nat.le_of_ble_eq_true rfl⟩ ⟨Nat.le_of_ble_eq_true rfl, Nat.le_of_ble_eq_true rfl⟩) (fun M1 => ?_)
    refine zk_iconst (v := (-1)) (pc := 13) B dX8_checkNumber_13 (by decide) ?_
    exact zk_iret (pc := 14) B dX8_checkNumber_14 rfl rfl (Nat.le_of_ble_eq_true rfl) (Nat.le_of_ble_eq_true rfl) rfl
set_option maxHeartbeats 4000000 in
set_option maxRecDepth 100000 in
theorem m_QueryReader_readValue {X : z_X} (hX : z_ok X) {G : z_Gr} {o : Nat} (hG : g_Sys G o) (M : z_Mem) (b : Int32 × z_Mem) (h : F_QueryReader_readValue o M = some b) : z_Ct X yX4_readValue cX4_readValue 2 (some .int) ({ frames := 2, cells := 0, slots := 0, locals := 44 } : Room) [.ref (o + 547)] G M (fun o9 G9 M9 => G9 = G ∧ (o9, M9) = z_cim b) := by
  refine z_enter hX (by decide) (Nat.le_of_ble_eq_true rfl) h (fun F B hR => ?_)
  show z_K X F 2 0 0 G z_cim b 0 0 0 [(0, .ref (o + 547))] [] M (F_QueryReader_readValue o M)
  unfold F_QueryReader_readValue
  refine zk_aload_n (pc := 0) B dX4_readValue_0 0 rfl rfl ?_
  refine zk_getr (pc := 1) B kx_4 (gQueryReader_s hG) 0 (by decide) kf_4_9 rfl (gQueryReader_f0 hG) dX4_readValue_1 ?_
  refine zk_cpi (pc := 4) (k' := 0) (n' := 0) B rfl rfl (Nat.le_of_ble_eq_true rfl) (Nat.le_of_ble_eq_true rfl) (fun b hb => zr_V B hR kV_yX8_isNumber km_4_75 kx_8 (gTokens_s hG) [] rfl rfl (Nat.le_of_ble_eq_true rfl) dX4_readValue_4 (m_Tokens_isNumber hX hG M b hb) ⟨Nat.le_of_ble_eq_true rfl, Nat.le_of_ble_eq_true rfl⟩ ⟨Nat.le_of_ble_eq_true rfl, Nat.le_of_ble_eq_true rfl⟩) (fun x1 _ => ?_)
  refine zk_if_eq (tgt := 30) (pc := 7) B dX4_readValue_7 (by decide) (fun _ => ?_) (fun _ => ?_)
  · refine zk_iconst (v := (-1)) (pc := 30) B dX4_readValue_30 (by decide) ?_
    refine zk_aload_n (pc := 31) B dX4_readValue_31 0 rfl rfl ?_
    refine zk_getr (pc := 32) B kx_4 (gQueryReader_s hG) 0 (by decide) kf_4_9 rfl (gQueryReader_f0 hG) dX4_readValue_32 ?_
    refine zk_iconst (v := 5) (pc := 35) B dX4_readValue_35 (by decide) ?_
    refine zk_bipush (v := 13) (pc := 36) B dX4_readValue_36 (by decide) ?_
    refine zk_cim (pc := 38) (k' := 0) (n' := 0) B rfl rfl (Nat.le_of_ble_eq_true rfl) (Nat.le_of_ble_eq_true rfl) (fun b hb => zr_V B hR kV_yX8_takeWord km_4_21 kx_8 (gTokens_s hG) [.int 5, .int 13] rfl rfl (Nat.le_of_ble_eq_true rfl) dX4_readValue_38 (m_Tokens_takeWord hX hG 5 13 M b hb) ⟨Nat.le_of_ble_eq_true rfl, Nat.le_of_ble_eq_true rfl⟩ ⟨Nat.le_of_ble_eq_true rfl, Nat.le_of_ble_eq_true rfl⟩) (fun x3 M2 => ?_)
    refine zk_isub (pc := 41) B dX4_readValue_41 ?_
    exact zk_iret (pc := 42) B dX4_readValue_42 rfl rfl (Nat.le_of_ble_eq_true rfl) (Nat.le_of_ble_eq_true rfl) rfl
  · refine zk_aload_n (pc := 10) B dX4_readValue_10 0 rfl rfl ?_
    refine zk_getr (pc := 11) B kx_4 (gQueryReader_s hG) 0 (by decide) kf_4_9 rfl (gQueryReader_f0 hG) dX4_readValue_11 ?_
    refine zk_iconst (v := 0) (pc := 14) B dX4_readValue_14 (by decide) ?_
    refine zk_ldc (pc := 15) B kc_4_78 dX4_readValue_15 ?_
    refine zk_cim (pc := 17) (k' := 0) (n' := 0) B rfl rfl (Nat.le_of_ble_eq_true rfl) (Nat.le_of_ble_eq_true rfl) (fun b hb => zr_V B hR kV_yX8_checkNumber km_4_79 kx_8 (gTokens_s hG) [.int 0, .int 99999] rfl rfl (Nat.le_of_ble_eq_true rfl) dX4_readValue_17 (m_Tokens_checkNumber hX hG 0 99999 M b hb) ⟨Nat.le_of_ble_eq_true rfl, Nat.le_of_ble_eq_true rfl⟩ ⟨Nat.le_of_ble_eq_true rfl, Nat.le_of_ble_eq_true rfl⟩) (fun x5 M4 => ?_)
    refine zk_istore_n (loc' := [(1, .int x5), (0, .ref (o + 547))]) (pc := 20) B dX4_readValue_20 rfl (by decide) rfl ?_
    refine zk_aload_n (pc := 21) B dX4_readValue_21 1 rfl rfl ?_
    refine zk_getr (pc := 22) B kx_4 (gQueryReader_s hG) 0 (by decide) kf_4_9 rfl (gQueryReader_f0 hG) dX4_readValue_22 ?_
    refine zk_cvm (pc := 25) (k' := 0) (n' := 0) B rfl rfl (Nat.le_of_ble_eq_true rfl) (Nat.le_of_ble_eq_true rfl) (fun b hb => zr_V B hR kV_yX8_next km_4_50 kx_8 (gTokens_s hG) [] rfl rfl (Nat.le_of_ble_eq_true rfl) dX4_readValue_25 (m_Tokens_next hX hG M4 b hb) ⟨Nat.le_of_ble_eq_true rfl, Nat.le_of_ble_eq_true rfl⟩ ⟨Nat.le_of_ble_eq_true rfl, Nat.le_of_ble_eq_true rfl⟩) (fun M6 => ?_)
    refine zk_iload_n (pc := 28) B dX4_readValue_28 0 rfl rfl ?_
    exact zk_iret (pc := 29) B dX4_readValue_29 rfl rfl (Nat.le_of_ble_eq_true rfl) (Nat.le_of_ble_eq_true rfl) rfl
set_option maxHeartbeats 4000000 in
set_option maxRecDepth 100000 in
theorem m_QueryReader_valueFor {X : z_X} (hX : z_ok X) {G : z_Gr} {o : Nat} (hG : g_Sys G o) (p0 : Int32) (p1 : Int32) (M : z_Mem) (b : Int32) (h : F_QueryReader_valueFor o p0 p1 M = some b) : z_Ct X yX4_valueFor cX4_valueFor 4 (some .int) ({ frames := 1, cells := 0, slots := 0, locals := 21 } : Room) [.ref (o + 547), .int p0, .int p1] G M (fun o9 G9 M9 => G9 = G ∧ (o9, M9) = (z_ci M) b) := by
  refine z_enter hX (by decide) (Nat.le_of_ble_eq_true rfl) h (fun F B hR => ?_)
  show z_K X F 4 0 0 G (z_ci M) b 0 0 0 [(0, .ref (o + 547)), (1, .int p0), (2, .int p1)] [] M (F_QueryReader_valueFor o p0 p1 M)
  unfold F_QueryReader_valueFor
  refine zk_aload_n (pc := 0) B dX4_valueFor_0 0 rfl rfl ?_
  refine zk_getr (pc := 1) B kx_4 (gQueryReader_s hG) 1 (by decide) kf_4_15 rfl (gQueryReader_f1 hG) dX4_valueFor_1 ?_
  refine zk_iload_n (pc := 4) B dX4_valueFor_4 2 rfl rfl ?_
  refine zk_cpr (pc := 5) (k' := 0) (n' := 0) B rfl rfl (Nat.le_of_ble_eq_true rfl) (Nat.le_of_ble_eq_true rfl) (fun b hb => zr_V B hR kV_yX0_rideAt km_4_85 kx_0 (gDesk_s (gQueryReader_t1 hG)) [.int p1] rfl rfl (Nat.le_of_ble_eq_true rfl) dX4_valueFor_5 (m_Desk_rideAt hX (gQueryReader_t1 hG) p1 M b hb) ⟨Nat.le_of_ble_eq_true rfl, Nat.le_of_ble_eq_true rfl⟩ ⟨Nat.le_of_ble_eq_true rfl, Nat.le_of_ble_eq_true rfl⟩) (fun t1 h2 => ?_)
  have ht1 : g_Ride G t1 := fr_Desk_rideAt (gQueryReader_t1 hG) h2
  refine zk_astore_n (loc' := [(3, .ref t1), (0, .ref (o + 547)), (1, .int p0), (2, .int p1)]) (pc := 8) B dX4_valueFor_8 rfl (by decide) rfl ?_
  refine zk_iconst (v := (-1)) (pc := 9) B dX4_valueFor_9 (by decide) ?_
  refine zk_iload_n (pc := 10) B dX4_valueFor_10 2 rfl rfl ?_
  refine zk_isub (pc := 11) B dX4_valueFor_11 ?_
  refine zk_if (fun hs => zk_tin (v := 5) (tgt := 101) (pc := 12) B dX4_valueFor_12 hs (by decide) (by decide) rfl (by decide) ?_) (fun hn12_0 => ?_)
  · refine zk_aload_n (pc := 101) B dX4_valueFor_101 0 rfl rfl ?_
    refine zk_geti (pc := 102) B kx_5 (gRide_s ht1) 9 (by decide) kf_4_112 rfl dX4_valueFor_102 ?_
    refine zk_iconst (v := 1) (pc := 105) B dX4_valueFor_105 (by decide) ?_
    refine zk_iadd (pc := 106) B dX4_valueFor_106 ?_
    exact zk_iret (pc := 107) B dX4_valueFor_107 rfl rfl (Nat.le_of_ble_eq_true rfl) (Nat.le_of_ble_eq_true rfl) rfl
  · refine zk_if (fun hs => zk_tin (v := 6) (tgt := 64) (pc := 12) B dX4_valueFor_12 hs (by decide) (by decide) rfl (by decide) ?_) (fun hn12_1 => ?_)
    · refine zk_iload_n (pc := 64) B dX4_valueFor_64 3 rfl rfl ?_
      exact zk_iret (pc := 65) B dX4_valueFor_65 rfl rfl (Nat.le_of_ble_eq_true rfl) (Nat.le_of_ble_eq_true rfl) rfl
    · refine zk_if (fun hs => zk_tin (v := 7) (tgt := 66) (pc := 12) B dX4_valueFor_12 hs (by decide) (by decide) rfl (by decide) ?_) (fun hn12_2 => ?_)
      · refine zk_aload_n (pc := 66) B dX4_valueFor_66 0 rfl rfl ?_
        refine zk_geti (pc := 67) B kx_5 (gRide_s ht1) 0 (by decide) kf_4_89 rfl dX4_valueFor_67 ?_
        exact zk_iret (pc := 70) B dX4_valueFor_70 rfl rfl (Nat.le_of_ble_eq_true rfl) (Nat.le_of_ble_eq_true rfl) rfl
      · refine zk_if (fun hs => zk_tin (v := 8) (tgt := 71) (pc := 12) B dX4_valueFor_12 hs (by decide) (by decide) rfl (by decide) ?_) (fun hn12_3 => ?_)
        · refine zk_aload_n (pc := 71) B dX4_valueFor_71 0 rfl rfl ?_
          refine zk_geti (pc := 72) B kx_5 (gRide_s ht1) 1 (by decide) kf_4_94 rfl dX4_valueFor_72 ?_
          exact zk_iret (pc := 75) B dX4_valueFor_75 rfl rfl (Nat.le_of_ble_eq_true rfl) (Nat.le_of_ble_eq_true rfl) rfl
        · refine zk_if (fun hs => zk_tin (v := 9) (tgt := 76) (pc := 12) B dX4_valueFor_12 hs (by decide) (by decide) rfl (by decide) ?_) (fun hn12_4 => ?_)
          · refine zk_aload_n (pc := 76) B dX4_valueFor_76 0 rfl rfl ?_
            refine zk_geti (pc := 77) B kx_5 (gRide_s ht1) 2 (by decide) kf_4_97 rfl dX4_valueFor_77 ?_
            exact zk_iret (pc := 80) B dX4_valueFor_80 rfl rfl (Nat.le_of_ble_eq_true rfl) (Nat.le_of_ble_eq_true rfl) rfl
          · refine zk_if (fun hs => zk_tin (v := 10) (tgt := 81) (pc := 12) B dX4_valueFor_12 hs (by decide) (by decide) rfl (by decide) ?_) (fun hn12_5 => ?_)
            · refine zk_aload_n (pc := 81) B dX4_valueFor_81 0 rfl rfl ?_
              refine zk_geti (pc := 82) B kx_5 (gRide_s ht1) 3 (by decide) kf_4_100 rfl dX4_valueFor_82 ?_
              exact zk_iret (pc := 85) B dX4_valueFor_85 rfl rfl (Nat.le_of_ble_eq_true rfl) (Nat.le_of_ble_eq_true rfl) rfl
            · refine zk_if (fun hs => zk_tin (v := 11) (tgt := 86) (pc := 12) B dX4_valueFor_12 hs (by decide) (by decide) rfl (by decide) ?_) (fun hn12_6 => ?_)
              · refine zk_aload_n (pc := 86) B dX4_valueFor_86 0 rfl rfl ?_
                refine zk_geti (pc := 87) B kx_5 (gRide_s ht1) 4 (by decide) kf_4_103 rfl dX4_valueFor_87 ?_
                exact zk_iret (pc := 90) B dX4_valueFor_90 rfl rfl (Nat.le_of_ble_eq_true rfl) (Nat.le_of_ble_eq_true rfl) rfl
              · refine zk_if (fun hs => zk_tin (v := 12) (tgt := 91) (pc := 12) B dX4_valueFor_12 hs (by decide) (by decide) rfl (by decide) ?_) (fun hn12_7 => ?_)
                · refine zk_aload_n (pc := 91) B dX4_valueFor_91 0 rfl rfl ?_
                  refine zk_geti (pc := 92) B kx_5 (gRide_s ht1) 6 (by decide) kf_4_106 rfl dX4_valueFor_92 ?_
                  exact zk_iret (pc := 95) B dX4_valueFor_95 rfl rfl (Nat.le_of_ble_eq_true rfl) (Nat.le_of_ble_eq_true rfl) rfl
                · refine zk_if (fun hs => zk_tin (v := 13) (tgt := 96) (pc := 12) B dX4_valueFor_12 hs (by decide) (by decide) rfl (by decide) ?_) (fun hn12_8 => ?_)
                  · refine zk_aload_n (pc := 96) B dX4_valueFor_96 0 rfl rfl ?_
                    refine zk_geti (pc := 97) B kx_5 (gRide_s ht1) 12 (by decide) kf_4_109 rfl dX4_valueFor_97 ?_
                    exact zk_iret (pc := 100) B dX4_valueFor_100 rfl rfl (Nat.le_of_ble_eq_true rfl) (Nat.le_of_ble_eq_true rfl) rfl
                  · refine zk_tout (pc := 12)  (tgt := 108) B dX4_valueFor_12 (by have q0 := z_ne hn12_0 (z := 5) (by decide); have q1 := z_ne hn12_1 (z := 6) (by decide); have q2 := z_ne hn12_2 (z := 7) (by decide); have q3 := z_ne hn12_3 (z := 8) (by decide); have q4 := z_ne hn12_4 (z := 9) (by decide); have q5 := z_ne hn12_5 (z := 10) (by decide); have q6 := z_ne hn12_6 (z := 11) (by decide); have q7 := z_ne hn12_7 (z := 12) (by decide); have q8 := z_ne hn12_8 (z := 13) (by decide); omega) (by decide) ?_
                    refine zk_iload_n (pc := 108) B dX4_valueFor_108 2 rfl rfl ?_
                    exact zk_iret (pc := 109) B dX4_valueFor_109 rfl rfl (Nat.le_of_ble_eq_true rfl) (Nat.le_of_ble_eq_true rfl) rfl
set_option maxHeartbeats 4000000 in
set_option maxRecDepth 100000 in
theorem m_QueryReader_holdingFor {X : z_X} (hX : z_ok X) {G : z_Gr} {o : Nat} (hG : g_Sys G o) (p0 : Int32) (p1 : Int32) (p2 : Int32) (M : z_Mem) (b : Int32) (h : F_QueryReader_holdingFor o p0 p1 p2 M = some b) : z_Ct X yX4_holdingFor cX4_holdingFor 9 (some .int) ({ frames := 2, cells := 0, slots := 0, locals := 44 } : Room) [.ref (o + 547), .int p0, .int p1, .int p2] G M (fun o9 G9 M9 => G9 = G ∧ (o9, M9) = (z_ci M) b) := by
  refine z_enter hX (by decide) (Nat.le_of_ble_eq_true rfl) h (fun F B hR => ?_)
  have L6 : ∀ (nf6 : Nat), ∀ (v1 : Int32) (v2 : Int32) (v3 : Int32) (v4 : Int32) (v5 : Int32), z_K X F 9 0 0 G (z_ci M) b 0 0 6 [(0, .ref (o + 547)), (1, .int v1), (2, .int v2), (3, .int v3), (4, .int v4), (5, .int v5)] [] M (F_QueryReader_holdingFor_L6 o nf6 v1 v2 v3 v4 v5 M) := by
    intro nf6
    induction nf6 with
    | zero => intro v1 v2 v3 v4 v5; exact zk_none
    | succ nf6 ih6 =>
      have J66 : ∀ (v1 : Int32) (v2 : Int32) (v3 : Int32) (v4 : Int32) (v5 : Int32) (s0 : Int32), z_K X F 9 0 0 G (z_ci M) b 0 0 66 [(0, .ref (o + 547)), (1, .int v1), (2, .int v2), (3, .int v3), (4, .int v4), (5, .int v5)] [.int s0] M (F_QueryReader_holdingFor_J66 o (F_QueryReader_holdingFor_L6 o nf6) v1 v2 v3 v4 v5 s0 M) := by
        intro v1 v2 v3 v4 v5 s0
        unfold F_QueryReader_holdingFor_J66
        refine zk_istore (loc' := [(8, .int s0), (0, .ref (o + 547)), (1, .int v1), (2, .int v2), (3, .int v3), (4, .int v4), (5, .int v5)]) (pc := 66) B dX4_holdingFor_66 (by decide) rfl ?_
        refine zk_iload (pc := 68) B dX4_holdingFor_68 0 rfl ?_
        refine zk_iload_n (pc := 70) B dX4_holdingFor_70 3 rfl rfl ?_
        refine zk_icmp_ne (tgt := 83) (pc := 71) B dX4_holdingFor_71 (by decide) (fun _ => ?_) (fun _ => ?_)
        · refine zk_iinc (y := 1) (lf := fun x3 => [(5, .int x3), (8, .int s0), (0, .ref (o + 547)), (1, .int v1), (2, .int v2), (3, .int v3), (4, .int v4)]) (pc := 83) B dX4_holdingFor_83 6 rfl (by decide) (by decide) (fun _ => rfl) (fun x3 => ?_)
          refine zk_goto (tgt := 6) (pc := 86) B dX4_holdingFor_86 (by decide) ?_
          refine zk_sub [2, 3, 4, 5, 6, 0] rfl ?_
          exact ih6 v1 v2 v3 v4 x3
        · refine zk_iload (pc := 74) B dX4_holdingFor_74 5 rfl ?_
          refine zk_iconst (v := 1) (pc := 76) B dX4_holdingFor_76 (by decide) ?_
          refine zk_iload (pc := 77) B dX4_holdingFor_77 6 rfl ?_
          refine zk_ishl (pc := 79) B dX4_holdingFor_79 ?_
          refine zk_ior (pc := 80) B dX4_holdingFor_80 ?_
          refine zk_li (fun x4 => ?_)
          refine zk_istore (loc' := [(4, .int x4), (8, .int s0), (0, .ref (o + 547)), (1, .int v1), (2, .int v2), (3, .int v3), (5, .int v5)]) (pc := 81) B dX4_holdingFor_81 (by decide) rfl ?_
          refine zk_iinc (y := 1) (lf := fun x5 => [(5, .int x5), (4, .int x4), (8, .int s0), (0, .ref (o + 547)), (1, .int v1), (2, .int v2), (3, .int v3)]) (pc := 83) B dX4_holdingFor_83 6 rfl (by decide) (by decide) (fun _ => rfl) (fun x5 => ?_)
          refine zk_goto (tgt := 6) (pc := 86) B dX4_holdingFor_86 (by decide) ?_
          refine zk_sub [3, 4, 5, 6, 1, 0] rfl ?_
          exact ih6 v1 v2 v3 x4 x5
      intro v1 v2 v3 v4 v5
      show z_K X F 9 0 0 G (z_ci M) b 0 0 6 [(0, .ref (o + 547)), (1, .int v1), (2, .int v2), (3, .int v3), (4, .int v4), (5, .int v5)] [] M (F_QueryReader_holdingFor_B6 o (F_QueryReader_holdingFor_L6 o nf6) v1 v2 v3 v4 v5 M)
      unfold F_QueryReader_holdingFor_B6
      refine zk_iload (pc := 6) B dX4_holdingFor_6 5 rfl ?_
      refine zk_aload_n (pc := 8) B dX4_holdingFor_8 0 rfl rfl ?_
      refine zk_getr (pc := 9) B kx_4 (gQueryReader_s hG) 1 (by decide) kf_4_15 rfl (gQueryReader_f1 hG) dX4_holdingFor_9 ?_
      refine zk_geti (pc := 12) B kx_0 (gDesk_s (gQueryReader_t1 hG)) 4 (by decide) kf_4_37 rfl dX4_holdingFor_12 ?_
      refine zk_icmp_ge (tgt := 89) (pc := 15) B dX4_holdingFor_15 (by decide) (fun _ => ?_) (fun _ => ?_)
      · refine zk_iload (pc := 89) B dX4_holdingFor_89 4 rfl ?_
        exact zk_iret (pc := 91) B dX4_holdingFor_91 rfl rfl (Nat.le_of_ble_eq_true rfl) (Nat.le_of_ble_eq_true rfl) rfl
      · refine zk_iload (pc := 18) B dX4_holdingFor_18 5 rfl ?_
        refine zk_bipush (v := 24) (pc := 20) B dX4_holdingFor_20 (by decide) ?_
        refine zk_icmp_ge (tgt := 89) (pc := 22) B dX4_holdingFor_22 (by decide) (fun _ => ?_) (fun _ => ?_)
        · refine zk_iload (pc := 89) B dX4_holdingFor_89 4 rfl ?_
          exact zk_iret (pc := 91) B dX4_holdingFor_91 rfl rfl (Nat.le_of_ble_eq_true rfl) (Nat.le_of_ble_eq_true rfl) rfl
        · refine zk_aload_n (pc := 25) B dX4_holdingFor_25 0 rfl rfl ?_
          refine zk_iload_n (pc := 26) B dX4_holdingFor_26 1 rfl rfl ?_
          refine zk_iload (pc := 27) B dX4_holdingFor_27 5 rfl ?_
          refine zk_cpi (pc := 29) (k' := 0) (n' := 0) B rfl rfl (Nat.le_of_ble_eq_true rfl) (Nat.le_of_ble_eq_true rfl) (fun b hb => zr_V B hR kV_yX4_valueFor km_4_82 kx_4 (gQueryReader_s hG) [.int v1, .int v5] rfl rfl (Nat.le_of_ble_eq_true rfl) dX4_holdingFor_29 (m_QueryReader_valueFor hX hG v1 v5 M b hb) ⟨Nat.le_of_ble_eq_true rfl, Nat.le_of_ble_eq_true rfl⟩ ⟨Nat.le_of_ble_eq_true rfl, Nat.le_of_ble_eq_true rfl⟩) (fun x1 _ => ?_)
          refine zk_istore (loc' := [(6, .int x1), (0, .ref (o + 547)), (1, .int v1), (2, .int v2), (3, .int v3), (4, .int v4), (5, .int v5)]) (pc := 32) B dX4_holdingFor_32 (by decide) rfl ?_
          refine zk_aload_n (pc := 34) B dX4_holdingFor_34 1 rfl rfl ?_
          refine zk_iload_n (pc := 35) B dX4_holdingFor_35 4 rfl rfl ?_
          refine zk_iload (pc := 36) B dX4_holdingFor_36 6 rfl ?_
          refine zk_cpi (pc := 38) (k' := 0) (n' := 0) B rfl rfl (Nat.le_of_ble_eq_true rfl) (Nat.le_of_ble_eq_true rfl) (fun b hb => zr_V B hR kV_yX4_valueFor km_4_82 kx_4 (gQueryReader_s hG) [.int v3, .int v5] rfl rfl (Nat.le_of_ble_eq_true rfl) dX4_holdingFor_38 (m_QueryReader_valueFor hX hG v3 v5 M b hb) ⟨Nat.le_of_ble_eq_true rfl, Nat.le_of_ble_eq_true rfl⟩ ⟨Nat.le_of_ble_eq_true rfl, Nat.le_of_ble_eq_true rfl⟩) (fun x2 _ => ?_)
          refine zk_istore (loc' := [(7, .int x2), (6, .int x1), (0, .ref (o + 547)), (1, .int v1), (2, .int v2), (3, .int v3), (4, .int v4), (5, .int v5)]) (pc := 41) B dX4_holdingFor_41 (by decide) rfl ?_
          refine zk_iload (pc := 43) B dX4_holdingFor_43 1 rfl ?_
          refine zk_iload (pc := 45) B dX4_holdingFor_45 0 rfl ?_
          refine zk_icmp_ge (tgt := 54) (pc := 47) B dX4_holdingFor_47 (by decide) (fun _ => ?_) (fun _ => ?_)
          · refine zk_iload (pc := 54) B dX4_holdingFor_54 1 rfl ?_
            refine zk_iload (pc := 56) B dX4_holdingFor_56 0 rfl ?_
            refine zk_icmp_le (tgt := 65) (pc := 58) B dX4_holdingFor_58 (by decide) (fun _ => ?_) (fun _ => ?_)
            · refine zk_iconst (v := 0) (pc := 65) B dX4_holdingFor_65 (by decide) ?_
              refine zk_sub [2, 3, 4, 5, 6, 7] rfl ?_
              exact J66 v1 v2 v3 v4 v5 0
            · refine zk_iconst (v := 1) (pc := 61) B dX4_holdingFor_61 (by decide) ?_
              refine zk_goto (tgt := 66) (pc := 62) B dX4_holdingFor_62 (by decide) ?_
              refine zk_sub [2, 3, 4, 5, 6, 7] rfl ?_
              exact J66 v1 v2 v3 v4 v5 1
          · refine zk_iconst (v := (-1)) (pc := 50) B dX4_holdingFor_50 (by decide) ?_
            refine zk_goto (tgt := 66) (pc := 51) B dX4_holdingFor_51 (by decide) ?_
            refine zk_sub [2, 3, 4, 5, 6, 7] rfl ?_
            exact J66 v1 v2 v3 v4 v5 (-1)
  show z_K X F 9 0 0 G (z_ci M) b 0 0 0 [(0, .ref (o + 547)), (1, .int p0), (2, .int p1), (3, .int p2)] [] M (F_QueryReader_holdingFor o p0 p1 p2 M)
  unfold F_QueryReader_holdingFor
  refine zk_iconst (v := 0) (pc := 0) B dX4_holdingFor_0 (by decide) ?_
  refine zk_istore (loc' := [(4, .int 0), (0, .ref (o + 547)), (1, .int p0), (2, .int p1), (3, .int p2)]) (pc := 1) B dX4_holdingFor_1 (by decide) rfl ?_
  refine zk_iconst (v := 0) (pc := 3) B dX4_holdingFor_3 (by decide) ?_
  refine zk_istore (loc' := [(5, .int 0), (4, .int 0), (0, .ref (o + 547)), (1, .int p0), (2, .int p1), (3, .int p2)]) (pc := 4) B dX4_holdingFor_4 (by decide) rfl ?_
  refine zk_sub [2, 3, 4, 5, 1, 0] rfl ?_
  exact L6 10000 p0 p1 p2 0 0
set_option maxHeartbeats 4000000 in
set_option maxRecDepth 100000 in
theorem m_Tokens_takeSign {X : z_X} (hX : z_ok X) {G : z_Gr} {o : Nat} (hG : g_Sys G o) (p0 : Int32) (M : z_Mem) (b : z_Mem) (h : F_Tokens_takeSign o p0 M = some b) : z_Ct X yX8_takeSign cX8_takeSign 2 none ({ frames := 1, cells := 0, slots := 0, locals := 21 } : Room) [.ref (o + 499), .int p0] G M (fun o9 G9 M9 => G9 = G ∧ (o9, M9) = z_cvm b) := by
  refine z_enter hX (by decide) (Nat.le_of_ble_eq_true rfl) h (fun F B hR => ?_)
  have J23 : ∀  (M : z_Mem), z_K X F 2 0 0 G z_cvm b 0 0 23 [(0, .ref (o + 499))] [] M (F_Tokens_takeSign_J23 o M) := by
    intro  M
    unfold F_Tokens_takeSign_J23
    refine zk_aload_n (pc := 23) B dX8_takeSign_23 0 rfl rfl ?_
    refine zk_iconst (v := 1) (pc := 24) B dX8_takeSign_24 (by decide) ?_
    refine zk_cvm (pc := 25) (k' := 0) (n' := 0) B rfl rfl (Nat.le_of_ble_eq_true rfl) (Nat.le_of_ble_eq_true rfl) (fun b hb => zr_V B hR kV_yX8_fail km_8_94 kx_8 (gTokens_s hG) [.int 1] rfl rfl (Nat.le_of_ble_eq_true rfl) dX8_takeSign_25 (m_Tokens_fail hX hG 1 M b hb) ⟨Nat.le_of_ble_eq_true rfl, Nat.le_of_ble_eq_true rfl⟩ ⟨Nat.le_of_ble_eq_true rfl, Nat.le_of_ble_eq_true rfl⟩) (fun M2 => ?_)
    exact zk_vret (pc := 28) B dX8_takeSign_28 rfl (Nat.le_of_ble_eq_true rfl) (Nat.le_of_ble_eq_true rfl) rfl
  show z_K X F 2 0 0 G z_cvm b 0 0 0 [(0, .ref (o + 499)), (1, .int p0)] [] M (F_Tokens_takeSign o p0 M)
  unfold F_Tokens_takeSign
  refine zk_aload_n (pc := 0) B dX8_takeSign_0 0 rfl rfl ?_
  refine zk_geti (pc := 1) B kx_8 (gTokens_s hG) 9 (by decide) kf_8_88 rfl dX8_takeSign_1 ?_
  refine zk_iconst (v := 3) (pc := 4) B dX8_takeSign_4 (by decide) ?_
  refine zk_icmp_ne (tgt := 23) (pc := 5) B dX8_takeSign_5 (by decide) (fun _ => ?_) (fun _ => ?_)
  · refine zk_sub [0] rfl ?_
    exact J23 M
  · refine zk_aload_n (pc := 8) B dX8_takeSign_8 0 rfl rfl ?_
    refine zk_geti (pc := 9) B kx_8 (gTokens_s hG) 10 (by decide) kf_8_91 rfl dX8_takeSign_9 ?_
    refine zk_iload_n (pc := 12) B dX8_takeSign_12 1 rfl rfl ?_
    refine zk_icmp_ne (tgt := 23) (pc := 13) B dX8_takeSign_13 (by decide) (fun _ => ?_) (fun _ => ?_)
    · refine zk_sub [0] rfl ?_
      exact J23 M
    · refine zk_aload_n (pc := 16) B dX8_takeSign_16 0 rfl rfl ?_
      refine zk_cvm (pc := 17) (k' := 0) (n' := 0) B rfl rfl (Nat.le_of_ble_eq_true rfl) (Nat.le_of_ble_eq_true rfl) (fun b hb => zr_V B hR kV_yX8_next km_8_59 kx_8 (gTokens_s hG) [] rfl rfl (Nat.le_of_ble_eq_true rfl) dX8_takeSign_17 (m_Tokens_next hX hG M b hb) ⟨Nat.le_of_ble_eq_true rfl, Nat.le_of_ble_eq_true rfl⟩ ⟨Nat.le_of_ble_eq_true rfl, Nat.le_of_ble_eq_true rfl⟩) (fun M1 => ?_)
      refine zk_goto (tgt := 28) (pc := 20) B dX8_takeSign_20 (by decide) ?_
      exact zk_vret (pc := 28) B dX8_takeSign_28 rfl (Nat.le_of_ble_eq_true rfl) (Nat.le_of_ble_eq_true rfl) rfl
