/-! ===== walks of the class (by program) ===== -/
set_option maxHeartbeats 4000000 in
set_option maxRecDepth 100000 in
theorem m_Tokens_hasMore {X : z_X} (hX : z_ok X) {G : z_Gr} {o : Nat} (hG : g_Sys G o) (M : z_Mem) (b : Int32) (h : F_Tokens_hasMore o M = some b) : z_Ct X yX8_hasMore cX8_hasMore 1 (some .boolean) ({ frames := 0, cells := 0, slots := 0, locals := 0 } : Room) [.ref (o + 499)] G M (fun o9 G9 M9 => G9 = G ∧ (o9, M9) = (z_ci M) b) := by
  refine z_enter hX (by decide) (Nat.le_of_ble_eq_true rfl) h (fun F B hR => ?_)
  show z_K X F 1 0 0 G (z_ci M) b 0 0 0 [(0, .ref (o + 499))] [] M (F_Tokens_hasMore o M)
  unfold F_Tokens_hasMore
  refine zk_aload_n (pc := 0) B dX8_hasMore_0 0 rfl rfl ?_
  refine zk_geti (pc := 1) B kx_8 (gTokens_s hG) 0 (by decide) kf_8_32 rfl dX8_hasMore_1 ?_
  refine zk_if_ne (tgt := 19) (pc := 4) B dX8_hasMore_4 (by decide) (fun _ => ?_) (fun _ => ?_)
  · refine zk_iconst (v := 0) (pc := 19) B dX8_hasMore_19 (by decide) ?_
    exact zk_iret (pc := 20) B dX8_hasMore_20 rfl rfl (Nat.le_of_ble_eq_true rfl) (Nat.le_of_ble_eq_true rfl) rfl
  · refine zk_aload_n (pc := 7) B dX8_hasMore_7 0 rfl rfl ?_
    refine zk_geti (pc := 8) B kx_8 (gTokens_s hG) 9 (by decide) kf_8_88 rfl dX8_hasMore_8 ?_
    refine zk_iconst (v := 4) (pc := 11) B dX8_hasMore_11 (by decide) ?_
    refine zk_icmp_eq (tgt := 19) (pc := 12) B dX8_hasMore_12 (by decide) (fun _ => ?_) (fun _ => ?_)
    · refine zk_iconst (v := 0) (pc := 19) B dX8_hasMore_19 (by decide) ?_
      exact zk_iret (pc := 20) B dX8_hasMore_20 rfl rfl (Nat.le_of_ble_eq_true rfl) (Nat.le_of_ble_eq_true rfl) rfl
    · refine zk_iconst (v := 1) (pc := 15) B dX8_hasMore_15 (by decide) ?_
      refine zk_goto (tgt := 20) (pc := 16) B dX8_hasMore_16 (by decide) ?_
      exact zk_iret (pc := 20) B dX8_hasMore_20 rfl rfl (Nat.le_of_ble_eq_true rfl) (Nat.le_of_ble_eq_true rfl) rfl
set_option maxHeartbeats 4000000 in
set_option maxRecDepth 100000 in
theorem m_Ride_begin {X : z_X} (hX : z_ok X) {G : z_Gr} {a : Nat} (ha : g_Ride G a) (p0 : Int32) (p1 : Int32) (p2 : Int32) (p3 : Int32) (M : z_Mem) (b : z_Mem) (h : F_Ride_begin a p0 p1 p2 p3 M = some b) : z_Ct X yX5_begin cX5_begin 5 none ({ frames := 0, cells := 0, slots := 0, locals := 0 } : Room) [.ref a, .int p0, .int p1, .int p2, .int p3] G M (fun o9 G9 M9 => G9 = G ∧ (o9, M9) = z_cvm b) := by
  refine z_enter hX (by decide) (Nat.le_of_ble_eq_true rfl) h (fun F B hR => ?_)
  show z_K X F 5 0 0 G z_cvm b 0 0 0 [(0, .ref a), (1, .int p0), (2, .int p1), (3, .int p2), (4, .int p3)] [] M (F_Ride_begin a p0 p1 p2 p3 M)
  unfold F_Ride_begin
  refine zk_aload_n (pc := 0) B dX5_begin_0 0 rfl rfl ?_
  refine zk_iconst (v := 0) (pc := 1) B dX5_begin_1 (by decide) ?_
  refine zk_puti (pc := 2) B kx_5 (gRide_s ha) 0 (by decide) kf_5_9 rfl rfl rfl rfl dX5_begin_2 ?_
  refine zk_lm (fun M1 => ?_)
  refine zk_aload_n (pc := 5) B dX5_begin_5 0 rfl rfl ?_
  refine zk_iload_n (pc := 6) B dX5_begin_6 1 rfl rfl ?_
  refine zk_puti (pc := 7) B kx_5 (gRide_s ha) 1 (by decide) kf_5_15 rfl rfl rfl rfl dX5_begin_7 ?_
  refine zk_lm (fun M2 => ?_)
  refine zk_aload_n (pc := 10) B dX5_begin_10 0 rfl rfl ?_
  refine zk_iload_n (pc := 11) B dX5_begin_11 2 rfl rfl ?_
  refine zk_puti (pc := 12) B kx_5 (gRide_s ha) 2 (by decide) kf_5_18 rfl rfl rfl rfl dX5_begin_12 ?_
  refine zk_lm (fun M3 => ?_)
  refine zk_aload_n (pc := 15) B dX5_begin_15 0 rfl rfl ?_
  refine zk_iload_n (pc := 16) B dX5_begin_16 3 rfl rfl ?_
  refine zk_puti (pc := 17) B kx_5 (gRide_s ha) 3 (by decide) kf_5_21 rfl rfl rfl rfl dX5_begin_17 ?_
  refine zk_lm (fun M4 => ?_)
  refine zk_aload_n (pc := 20) B dX5_begin_20 0 rfl rfl ?_
  refine zk_iload (pc := 21) B dX5_begin_21 4 rfl ?_
  refine zk_puti (pc := 23) B kx_5 (gRide_s ha) 6 (by decide) kf_5_24 rfl rfl rfl rfl dX5_begin_23 ?_
  refine zk_lm (fun M5 => ?_)
  refine zk_aload_n (pc := 26) B dX5_begin_26 0 rfl rfl ?_
  refine zk_iconst (v := (-1)) (pc := 27) B dX5_begin_27 (by decide) ?_
  refine zk_puti (pc := 28) B kx_5 (gRide_s ha) 9 (by decide) kf_5_27 rfl rfl rfl rfl dX5_begin_28 ?_
  refine zk_lm (fun M6 => ?_)
  refine zk_aload_n (pc := 31) B dX5_begin_31 0 rfl rfl ?_
  refine zk_iconst (v := (-1)) (pc := 32) B dX5_begin_32 (by decide) ?_
  refine zk_puti (pc := 33) B kx_5 (gRide_s ha) 10 (by decide) kf_5_30 rfl rfl rfl rfl dX5_begin_33 ?_
  refine zk_lm (fun M7 => ?_)
  refine zk_aload_n (pc := 36) B dX5_begin_36 0 rfl rfl ?_
  refine zk_iconst (v := (-1)) (pc := 37) B dX5_begin_37 (by decide) ?_
  refine zk_puti (pc := 38) B kx_5 (gRide_s ha) 11 (by decide) kf_5_33 rfl rfl rfl rfl dX5_begin_38 ?_
  refine zk_lm (fun M8 => ?_)
  refine zk_aload_n (pc := 41) B dX5_begin_41 0 rfl rfl ?_
  refine zk_iconst (v := 0) (pc := 42) B dX5_begin_42 (by decide) ?_
  refine zk_puti (pc := 43) B kx_5 (gRide_s ha) 12 (by decide) kf_5_36 rfl rfl rfl rfl dX5_begin_43 ?_
  refine zk_lm (fun M9 => ?_)
  refine zk_aload_n (pc := 46) B dX5_begin_46 0 rfl rfl ?_
  refine zk_iconst (v := 0) (pc := 47) B dX5_begin_47 (by decide) ?_
  refine zk_puti (pc := 48) B kx_5 (gRide_s ha) 13 (by decide) kf_5_39 rfl rfl rfl rfl dX5_begin_48 ?_
  refine zk_lm (fun M10 => ?_)
  refine zk_aload_n (pc := 51) B dX5_begin_51 0 rfl rfl ?_
  refine zk_iconst (v := (-1)) (pc := 52) B dX5_begin_52 (by decide) ?_
  refine zk_puti (pc := 53) B kx_5 (gRide_s ha) 14 (by decide) kf_5_43 rfl rfl rfl rfl dX5_begin_53 ?_
  refine zk_lm (fun M11 => ?_)
  refine zk_aload_n (pc := 56) B dX5_begin_56 0 rfl rfl ?_
  refine zk_iconst (v := (-1)) (pc := 57) B dX5_begin_57 (by decide) ?_
  refine zk_puti (pc := 58) B kx_5 (gRide_s ha) 15 (by decide) kf_5_46 rfl rfl rfl rfl dX5_begin_58 ?_
  refine zk_lm (fun M12 => ?_)
  refine zk_aload_n (pc := 61) B dX5_begin_61 0 rfl rfl ?_
  refine zk_iconst (v := (-1)) (pc := 62) B dX5_begin_62 (by decide) ?_
  refine zk_puti (pc := 63) B kx_5 (gRide_s ha) 16 (by decide) kf_5_49 rfl rfl rfl rfl dX5_begin_63 ?_
  refine zk_lm (fun M13 => ?_)
  refine zk_aload_n (pc := 66) B dX5_begin_66 0 rfl rfl ?_
  refine zk_iconst (v := (-1)) (pc := 67) B dX5_begin_67 (by decide) ?_
  refine zk_puti (pc := 68) B kx_5 (gRide_s ha) 17 (by decide) kf_5_52 rfl rfl rfl rfl dX5_begin_68 ?_
  refine zk_lm (fun M14 => ?_)
  refine zk_aload_n (pc := 71) B dX5_begin_71 0 rfl rfl ?_
  refine zk_iconst (v := (-1)) (pc := 72) B dX5_begin_72 (by decide) ?_
  refine zk_puti (pc := 73) B kx_5 (gRide_s ha) 18 (by decide) kf_5_55 rfl rfl rfl rfl dX5_begin_73 ?_
  refine zk_lm (fun M15 => ?_)
  exact zk_vret (pc := 76) B dX5_begin_76 rfl (Nat.le_of_ble_eq_true rfl) (Nat.le_of_ble_eq_true rfl) rfl
set_option maxHeartbeats 4000000 in
set_option maxRecDepth 100000 in
theorem m_Ride_setDirect {X : z_X} (hX : z_ok X) {G : z_Gr} {a : Nat} (ha : g_Ride G a) (p0 : Int32) (M : z_Mem) (b : z_Mem) (h : F_Ride_setDirect a p0 M = some b) : z_Ct X yX5_setDirect cX5_setDirect 2 none ({ frames := 0, cells := 0, slots := 0, locals := 0 } : Room) [.ref a, .int p0] G M (fun o9 G9 M9 => G9 = G ∧ (o9, M9) = z_cvm b) := by
  refine z_enter hX (by decide) (Nat.le_of_ble_eq_true rfl) h (fun F B hR => ?_)
  have J27 : ∀ (s0 : Int32) (M : z_Mem), z_K X F 2 0 0 G z_cvm b 0 0 27 [] [.int s0, .ref a] M (F_Ride_setDirect_J27 a s0 M) := by
    intro s0 M
    unfold F_Ride_setDirect_J27
    refine zk_puti (pc := 27) B kx_5 (gRide_s ha) 8 (by decide) kf_5_61 rfl rfl rfl rfl dX5_setDirect_27 ?_
    refine zk_lm (fun M2 => ?_)
    exact zk_vret (pc := 30) B dX5_setDirect_30 rfl (Nat.le_of_ble_eq_true rfl) (Nat.le_of_ble_eq_true rfl) rfl
  show z_K X F 2 0 0 G z_cvm b 0 0 0 [(0, .ref a), (1, .int p0)] [] M (F_Ride_setDirect a p0 M)
  unfold F_Ride_setDirect
  refine zk_aload_n (pc := 0) B dX5_setDirect_0 0 rfl rfl ?_
  refine zk_iload_n (pc := 1) B dX5_setDirect_1 1 rfl rfl ?_
  refine zk_puti (pc := 2) B kx_5 (gRide_s ha) 7 (by decide) kf_5_58 rfl rfl rfl rfl dX5_setDirect_2 ?_
  refine zk_lm (fun M1 => ?_)
  refine zk_aload_n (pc := 5) B dX5_setDirect_5 0 rfl rfl ?_
  refine zk_iload_n (pc := 6) B dX5_setDirect_6 1 rfl rfl ?_
  refine zk_iconst (v := (-1)) (pc := 7) B dX5_setDirect_7 (by decide) ?_
  refine zk_icmp_ne (tgt := 15) (pc := 8) B dX5_setDirect_8 (by decide) (fun _ => ?_) (fun _ => ?_)
  · refine zk_iload_n (pc := 15) B dX5_setDirect_15 1 rfl rfl ?_
    refine zk_bipush (v := 100) (pc := 16) B dX5_setDirect_16 (by decide) ?_
    refine zk_aload_n (pc := 18) B dX5_setDirect_18 0 rfl rfl ?_
    refine zk_geti (pc := 19) B kx_5 (gRide_s ha) 6 (by decide) kf_5_24 rfl dX5_setDirect_19 ?_
    refine zk_iadd (pc := 22) B dX5_setDirect_22 ?_
    refine zk_imul (pc := 23) B dX5_setDirect_23 ?_
    refine zk_bipush (v := 100) (pc := 24) B dX5_setDirect_24 (by decide) ?_
    refine zk_idiv (pc := 26) B dX5_setDirect_26 (by decide) ?_
    refine zk_sub [] rfl ?_
    exact J27 ((p0 * (100 + (M1.1 a 6))) / 100) M1
  · refine zk_iconst (v := (-1)) (pc := 11) B dX5_setDirect_11 (by decide) ?_
    refine zk_goto (tgt := 27) (pc := 12) B dX5_setDirect_12 (by decide) ?_
    refine zk_sub [] rfl ?_
    exact J27 (-1) M1
set_option maxHeartbeats 4000000 in
set_option maxRecDepth 100000 in
theorem m_Taxi_startShift {X : z_X} (hX : z_ok X) {G : z_Gr} {a : Nat} (ha : g_Taxi G a) (p0 : Int32) (p1 : Int32) (p2 : Int32) (p3 : Int32) (M : z_Mem) (b : z_Mem) (h : F_Taxi_startShift a p0 p1 p2 p3 M = some b) : z_Ct X yX6_startShift cX6_startShift 5 none ({ frames := 0, cells := 0, slots := 0, locals := 0 } : Room) [.ref a, .int p0, .int p1, .int p2, .int p3] G M (fun o9 G9 M9 => G9 = G ∧ (o9, M9) = z_cvm b) := by
  refine z_enter hX (by decide) (Nat.le_of_ble_eq_true rfl) h (fun F B hR => ?_)
  show z_K X F 5 0 0 G z_cvm b 0 0 0 [(0, .ref a), (1, .int p0), (2, .int p1), (3, .int p2), (4, .int p3)] [] M (F_Taxi_startShift a p0 p1 p2 p3 M)
  unfold F_Taxi_startShift
  refine zk_aload_n (pc := 0) B dX6_startShift_0 0 rfl rfl ?_
  refine zk_iload_n (pc := 1) B dX6_startShift_1 1 rfl rfl ?_
  refine zk_puti (pc := 2) B kx_6 (gTaxi_s ha) 0 (by decide) kf_6_18 rfl rfl rfl rfl dX6_startShift_2 ?_
  refine zk_lm (fun M1 => ?_)
  refine zk_aload_n (pc := 5) B dX6_startShift_5 0 rfl rfl ?_
  refine zk_iload_n (pc := 6) B dX6_startShift_6 2 rfl rfl ?_
  refine zk_puti (pc := 7) B kx_6 (gTaxi_s ha) 1 (by decide) kf_6_22 rfl rfl rfl rfl dX6_startShift_7 ?_
  refine zk_lm (fun M2 => ?_)
  refine zk_aload_n (pc := 10) B dX6_startShift_10 0 rfl rfl ?_
  refine zk_iload_n (pc := 11) B dX6_startShift_11 3 rfl rfl ?_
  refine zk_puti (pc := 12) B kx_6 (gTaxi_s ha) 2 (by decide) kf_6_25 rfl rfl rfl rfl dX6_startShift_12 ?_
  refine zk_lm (fun M3 => ?_)
  refine zk_aload_n (pc := 15) B dX6_startShift_15 0 rfl rfl ?_
  refine zk_iload_n (pc := 16) B dX6_startShift_16 3 rfl rfl ?_
  refine zk_puti (pc := 17) B kx_6 (gTaxi_s ha) 3 (by decide) kf_6_28 rfl rfl rfl rfl dX6_startShift_17 ?_
  refine zk_lm (fun M4 => ?_)
  refine zk_aload_n (pc := 20) B dX6_startShift_20 0 rfl rfl ?_
  refine zk_iload (pc := 21) B dX6_startShift_21 4 rfl ?_
  refine zk_puti (pc := 23) B kx_6 (gTaxi_s ha) 4 (by decide) kf_6_31 rfl rfl rfl rfl dX6_startShift_23 ?_
  refine zk_lm (fun M5 => ?_)
  refine zk_aload_n (pc := 26) B dX6_startShift_26 0 rfl rfl ?_
  refine zk_iconst (v := 0) (pc := 27) B dX6_startShift_27 (by decide) ?_
  refine zk_puti (pc := 28) B kx_6 (gTaxi_s ha) 5 (by decide) kf_6_34 rfl rfl rfl rfl dX6_startShift_28 ?_
  refine zk_lm (fun M6 => ?_)
  refine zk_aload_n (pc := 31) B dX6_startShift_31 0 rfl rfl ?_
  refine zk_iconst (v := (-1)) (pc := 32) B dX6_startShift_32 (by decide) ?_
  refine zk_puti (pc := 33) B kx_6 (gTaxi_s ha) 6 (by decide) kf_6_37 rfl rfl rfl rfl dX6_startShift_33 ?_
  refine zk_lm (fun M7 => ?_)
  refine zk_aload_n (pc := 36) B dX6_startShift_36 0 rfl rfl ?_
  refine zk_iconst (v := 0) (pc := 37) B dX6_startShift_37 (by decide) ?_
  refine zk_puti (pc := 38) B kx_6 (gTaxi_s ha) 7 (by decide) kf_6_40 rfl rfl rfl rfl dX6_startShift_38 ?_
  refine zk_lm (fun M8 => ?_)
  refine zk_aload_n (pc := 41) B dX6_startShift_41 0 rfl rfl ?_
  refine zk_iconst (v := 0) (pc := 42) B dX6_startShift_42 (by decide) ?_
  refine zk_puti (pc := 43) B kx_6 (gTaxi_s ha) 8 (by decide) kf_6_43 rfl rfl rfl rfl dX6_startShift_43 ?_
  refine zk_lm (fun M9 => ?_)
  refine zk_aload_n (pc := 46) B dX6_startShift_46 0 rfl rfl ?_
  refine zk_iconst (v := 0) (pc := 47) B dX6_startShift_47 (by decide) ?_
  refine zk_puti (pc := 48) B kx_6 (gTaxi_s ha) 11 (by decide) kf_6_46 rfl rfl rfl rfl dX6_startShift_48 ?_
  refine zk_lm (fun M10 => ?_)
  refine zk_aload_n (pc := 51) B dX6_startShift_51 0 rfl rfl ?_
  refine zk_iconst (v := 0) (pc := 52) B dX6_startShift_52 (by decide) ?_
  refine zk_puti (pc := 53) B kx_6 (gTaxi_s ha) 12 (by decide) kf_6_49 rfl rfl rfl rfl dX6_startShift_53 ?_
  refine zk_lm (fun M11 => ?_)
  refine zk_aload_n (pc := 56) B dX6_startShift_56 0 rfl rfl ?_
  refine zk_iconst (v := 0) (pc := 57) B dX6_startShift_57 (by decide) ?_
  refine zk_puti (pc := 58) B kx_6 (gTaxi_s ha) 13 (by decide) kf_6_52 rfl rfl rfl rfl dX6_startShift_58 ?_
  refine zk_lm (fun M12 => ?_)
  refine zk_aload_n (pc := 61) B dX6_startShift_61 0 rfl rfl ?_
  refine zk_iconst (v := 0) (pc := 62) B dX6_startShift_62 (by decide) ?_
  refine zk_puti (pc := 63) B kx_6 (gTaxi_s ha) 14 (by decide) kf_6_55 rfl rfl rfl rfl dX6_startShift_63 ?_
  refine zk_lm (fun M13 => ?_)
  refine zk_aload_n (pc := 66) B dX6_startShift_66 0 rfl rfl ?_
  refine zk_iconst (v := 0) (pc := 67) B dX6_startShift_67 (by decide) ?_
  refine zk_puti (pc := 68) B kx_6 (gTaxi_s ha) 15 (by decide) kf_6_58 rfl rfl rfl rfl dX6_startShift_68 ?_
  refine zk_lm (fun M14 => ?_)
  refine zk_aload_n (pc := 71) B dX6_startShift_71 0 rfl rfl ?_
  refine zk_iconst (v := 0) (pc := 72) B dX6_startShift_72 (by decide) ?_
  refine zk_puti (pc := 73) B kx_6 (gTaxi_s ha) 16 (by decide) kf_6_61 rfl rfl rfl rfl dX6_startShift_73 ?_
  refine zk_lm (fun M15 => ?_)
  exact zk_vret (pc := 76) B dX6_startShift_76 rfl (Nat.le_of_ble_eq_true rfl) (Nat.le_of_ble_eq_true rfl) rfl
set_option maxHeartbeats 4000000 in
set_option maxRecDepth 100000 in
theorem m_Taxi_insertStop {X : z_X} (hX : z_ok X) {G : z_Gr} {a : Nat} (ha : g_Taxi G a) (p0 : Int32) (p1 : Int32) (M : z_Mem) (b : z_Mem) (h : F_Taxi_insertStop a p0 p1 M = some b) : z_Ct X yX6_insertStop cX6_insertStop 4 none ({ frames := 0, cells := 0, slots := 0, locals := 0 } : Room) [.ref a, .int p0, .int p1] G M (fun o9 G9 M9 => G9 = G ∧ (o9, M9) = z_cvm b) := by
  refine z_enter hX (by decide) (Nat.le_of_ble_eq_true rfl) h (fun F B hR => ?_)
  have L34 : ∀ (nf34 : Nat), ∀ (v1 : Int32) (v2 : Int32) (v3 : Int32) (M : z_Mem), z_K X F 4 0 0 G z_cvm b 0 0 34 [(0, .ref a), (1, .int v1), (2, .int v2), (3, .int v3)] [] M (F_Taxi_insertStop_L34 a nf34 v1 v2 v3 M) := by
    intro nf34
    induction nf34 with
    | zero => intro v1 v2 v3 M; exact zk_none
    | succ nf34 ih34 =>
      intro v1 v2 v3 M
      show z_K X F 4 0 0 G z_cvm b 0 0 34 [(0, .ref a), (1, .int v1), (2, .int v2), (3, .int v3)] [] M (F_Taxi_insertStop_B34 a (F_Taxi_insertStop_L34 a nf34) v1 v2 v3 M)
      unfold F_Taxi_insertStop_B34
      refine zk_iload_n (pc := 34) B dX6_insertStop_34 3 rfl rfl ?_
      refine zk_iload_n (pc := 35) B dX6_insertStop_35 1 rfl rfl ?_
      refine zk_icmp_le (tgt := 59) (pc := 36) B dX6_insertStop_36 (by decide) (fun _ => ?_) (fun _ => ?_)
      · refine zk_aload_n (pc := 59) B dX6_insertStop_59 0 rfl rfl ?_
        refine zk_getr (pc := 60) B kx_6 (gTaxi_s ha) 9 (by decide) kf_6_9 rfl (gTaxi_f9 ha) dX6_insertStop_60 ?_
        refine zk_iload_n (pc := 63) B dX6_insertStop_63 1 rfl rfl ?_
        refine zk_iload_n (pc := 64) B dX6_insertStop_64 2 rfl rfl ?_
        refine zk_iast (pc := 65) B (gTaxi_t9 ha) dX6_insertStop_65 ?_
        refine zk_lm (fun M2 => ?_)
        refine zk_aload_n (pc := 66) B dX6_insertStop_66 0 rfl rfl ?_
        refine zk_dup (pc := 67) B dX6_insertStop_67 rfl ?_
        refine zk_geti (pc := 68) B kx_6 (gTaxi_s ha) 7 (by decide) kf_6_40 rfl dX6_insertStop_68 ?_
        refine zk_iconst (v := 1) (pc := 71) B dX6_insertStop_71 (by decide) ?_
        refine zk_iadd (pc := 72) B dX6_insertStop_72 ?_
        refine zk_puti (pc := 73) B kx_6 (gTaxi_s ha) 7 (by decide) kf_6_40 rfl rfl rfl rfl dX6_insertStop_73 ?_
        refine zk_lm (fun M3 => ?_)
        exact zk_vret (pc := 76) B dX6_insertStop_76 rfl (Nat.le_of_ble_eq_true rfl) (Nat.le_of_ble_eq_true rfl) rfl
      · refine zk_aload_n (pc := 39) B dX6_insertStop_39 0 rfl rfl ?_
        refine zk_getr (pc := 40) B kx_6 (gTaxi_s ha) 9 (by decide) kf_6_9 rfl (gTaxi_f9 ha) dX6_insertStop_40 ?_
        refine zk_iload_n (pc := 43) B dX6_insertStop_43 3 rfl rfl ?_
        refine zk_aload_n (pc := 44) B dX6_insertStop_44 0 rfl rfl ?_
        refine zk_getr (pc := 45) B kx_6 (gTaxi_s ha) 9 (by decide) kf_6_9 rfl (gTaxi_f9 ha) dX6_insertStop_45 ?_
        refine zk_iload_n (pc := 48) B dX6_insertStop_48 3 rfl rfl ?_
        refine zk_iconst (v := 1) (pc := 49) B dX6_insertStop_49 (by decide) ?_
        refine zk_isub (pc := 50) B dX6_insertStop_50 ?_
        refine zk_iald (pc := 51) B (gTaxi_t9 ha) dX6_insertStop_51 ?_
        refine zk_iast (pc := 52) B (gTaxi_t9 ha) dX6_insertStop_52 ?_
        refine zk_lm (fun M4 => ?_)
        refine zk_iinc (y := (-1)) (lf := fun x5 => [(3, .int x5), (0, .ref a), (1, .int v1), (2, .int v2)]) (pc := 53) B dX6_insertStop_53 3 rfl (by decide) (by decide) (fun _ => rfl) (fun x5 => ?_)
        refine zk_goto (tgt := 34) (pc := 56) B dX6_insertStop_56 (by decide) ?_
        refine zk_sub [1, 2, 3, 0] rfl ?_
        exact ih34 v1 v2 x5 M4
  show z_K X F 4 0 0 G z_cvm b 0 0 0 [(0, .ref a), (1, .int p0), (2, .int p1)] [] M (F_Taxi_insertStop a p0 p1 M)
  unfold F_Taxi_insertStop
  refine zk_iload_n (pc := 0) B dX6_insertStop_0 1 rfl rfl ?_
  refine zk_if_lt (tgt := 28) (pc := 1) B dX6_insertStop_1 (by decide) (fun _ => ?_) (fun _ => ?_)
  · exact zk_vret (pc := 28) B dX6_insertStop_28 rfl (Nat.le_of_ble_eq_true rfl) (Nat.le_of_ble_eq_true rfl) rfl
  · refine zk_iload_n (pc := 4) B dX6_insertStop_4 1 rfl rfl ?_
    refine zk_aload_n (pc := 5) B dX6_insertStop_5 0 rfl rfl ?_
    refine zk_geti (pc := 6) B kx_6 (gTaxi_s ha) 7 (by decide) kf_6_40 rfl dX6_insertStop_6 ?_
    refine zk_icmp_gt (tgt := 28) (pc := 9) B dX6_insertStop_9 (by decide) (fun _ => ?_) (fun _ => ?_)
    · exact zk_vret (pc := 28) B dX6_insertStop_28 rfl (Nat.le_of_ble_eq_true rfl) (Nat.le_of_ble_eq_true rfl) rfl
    · refine zk_aload_n (pc := 12) B dX6_insertStop_12 0 rfl rfl ?_
      refine zk_geti (pc := 13) B kx_6 (gTaxi_s ha) 7 (by decide) kf_6_40 rfl dX6_insertStop_13 ?_
      refine zk_if_lt (tgt := 28) (pc := 16) B dX6_insertStop_16 (by decide) (fun _ => ?_) (fun _ => ?_)
      · exact zk_vret (pc := 28) B dX6_insertStop_28 rfl (Nat.le_of_ble_eq_true rfl) (Nat.le_of_ble_eq_true rfl) rfl
      · refine zk_aload_n (pc := 19) B dX6_insertStop_19 0 rfl rfl ?_
        refine zk_geti (pc := 20) B kx_6 (gTaxi_s ha) 7 (by decide) kf_6_40 rfl dX6_insertStop_20 ?_
        refine zk_bipush (v := 12) (pc := 23) B dX6_insertStop_23 (by decide) ?_
        refine zk_icmp_lt (tgt := 29) (pc := 25) B dX6_insertStop_25 (by decide) (fun _ => ?_) (fun _ => ?_)
        · refine zk_aload_n (pc := 29) B dX6_insertStop_29 0 rfl rfl ?_
          refine zk_geti (pc := 30) B kx_6 (gTaxi_s ha) 7 (by decide) kf_6_40 rfl dX6_insertStop_30 ?_
          refine zk_li (fun x1 => ?_)
          refine zk_istore_n (loc' := [(3, .int x1), (0, .ref a), (1, .int p0), (2, .int p1)]) (pc := 33) B dX6_insertStop_33 rfl (by decide) rfl ?_
          refine zk_sub [1, 2, 3, 0] rfl ?_
          exact L34 10000 p0 p1 x1 M
        · exact zk_vret (pc := 28) B dX6_insertStop_28 rfl (Nat.le_of_ble_eq_true rfl) (Nat.le_of_ble_eq_true rfl) rfl
set_option maxHeartbeats 4000000 in
set_option maxRecDepth 100000 in
theorem m_Taxi_removeStop {X : z_X} (hX : z_ok X) {G : z_Gr} {a : Nat} (ha : g_Taxi G a) (p0 : Int32) (M : z_Mem) (b : z_Mem) (h : F_Taxi_removeStop a p0 M = some b) : z_Ct X yX6_removeStop cX6_removeStop 4 none ({ frames := 0, cells := 0, slots := 0, locals := 0 } : Room) [.ref a, .int p0] G M (fun o9 G9 M9 => G9 = G ∧ (o9, M9) = z_cvm b) := by
  refine z_enter hX (by decide) (Nat.le_of_ble_eq_true rfl) h (fun F B hR => ?_)
  have J49 : ∀ (v2 : Int32) (M : z_Mem), z_K X F 4 0 0 G z_cvm b 0 0 49 [(0, .ref a), (2, .int v2)] [] M (F_Taxi_removeStop_J49 a v2 M) := by
    intro v2 M
    unfold F_Taxi_removeStop_J49
    refine zk_aload_n (pc := 49) B dX6_removeStop_49 0 rfl rfl ?_
    refine zk_iload_n (pc := 50) B dX6_removeStop_50 1 rfl rfl ?_
    refine zk_puti (pc := 51) B kx_6 (gTaxi_s ha) 7 (by decide) kf_6_40 rfl rfl rfl rfl dX6_removeStop_51 ?_
    refine zk_lm (fun M5 => ?_)
    exact zk_vret (pc := 54) B dX6_removeStop_54 rfl (Nat.le_of_ble_eq_true rfl) (Nat.le_of_ble_eq_true rfl) rfl
  have L4 : ∀ (nf4 : Nat), ∀ (v1 : Int32) (v2 : Int32) (v3 : Int32) (M : z_Mem), z_K X F 4 0 0 G z_cvm b 0 0 4 [(0, .ref a), (1, .int v1), (2, .int v2), (3, .int v3)] [] M (F_Taxi_removeStop_L4 a nf4 v1 v2 v3 M) := by
    intro nf4
    induction nf4 with
    | zero => intro v1 v2 v3 M; exact zk_none
    | succ nf4 ih4 =>
      intro v1 v2 v3 M
      show z_K X F 4 0 0 G z_cvm b 0 0 4 [(0, .ref a), (1, .int v1), (2, .int v2), (3, .int v3)] [] M (F_Taxi_removeStop_B4 a (F_Taxi_removeStop_L4 a nf4) v1 v2 v3 M)
      unfold F_Taxi_removeStop_B4
      refine zk_iload_n (pc := 4) B dX6_removeStop_4 3 rfl rfl ?_
      refine zk_aload_n (pc := 5) B dX6_removeStop_5 0 rfl rfl ?_
      refine zk_geti (pc := 6) B kx_6 (gTaxi_s ha) 7 (by decide) kf_6_40 rfl dX6_removeStop_6 ?_
      refine zk_icmp_ge (tgt := 49) (pc := 9) B dX6_removeStop_9 (by decide) (fun _ => ?_) (fun _ => ?_)
      · refine zk_sub [0, 2] rfl ?_
        exact J49 v2 M
      · refine zk_iload_n (pc := 12) B dX6_removeStop_12 3 rfl rfl ?_
        refine zk_bipush (v := 12) (pc := 13) B dX6_removeStop_13 (by decide) ?_
        refine zk_icmp_ge (tgt := 49) (pc := 15) B dX6_removeStop_15 (by decide) (fun _ => ?_) (fun _ => ?_)
        · refine zk_sub [0, 2] rfl ?_
          exact J49 v2 M
        · refine zk_aload_n (pc := 18) B dX6_removeStop_18 0 rfl rfl ?_
          refine zk_getr (pc := 19) B kx_6 (gTaxi_s ha) 9 (by decide) kf_6_9 rfl (gTaxi_f9 ha) dX6_removeStop_19 ?_
          refine zk_iload_n (pc := 22) B dX6_removeStop_22 3 rfl rfl ?_
          refine zk_iald (pc := 23) B (gTaxi_t9 ha) dX6_removeStop_23 ?_
          refine zk_iload_n (pc := 24) B dX6_removeStop_24 1 rfl rfl ?_
          refine zk_icmp_eq (tgt := 43) (pc := 25) B dX6_removeStop_25 (by decide) (fun _ => ?_) (fun _ => ?_)
          · refine zk_iinc (y := 1) (lf := fun x1 => [(3, .int x1), (0, .ref a), (1, .int v1), (2, .int v2)]) (pc := 43) B dX6_removeStop_43 3 rfl (by decide) (by decide) (fun _ => rfl) (fun x1 => ?_)
            refine zk_goto (tgt := 4) (pc := 46) B dX6_removeStop_46 (by decide) ?_
            refine zk_sub [1, 2, 3, 0] rfl ?_
            exact ih4 v1 v2 x1 M
          · refine zk_aload_n (pc := 28) B dX6_removeStop_28 0 rfl rfl ?_
            refine zk_getr (pc := 29) B kx_6 (gTaxi_s ha) 9 (by decide) kf_6_9 rfl (gTaxi_f9 ha) dX6_removeStop_29 ?_
            refine zk_iload_n (pc := 32) B dX6_removeStop_32 2 rfl rfl ?_
            refine zk_aload_n (pc := 33) B dX6_removeStop_33 0 rfl rfl ?_
            refine zk_getr (pc := 34) B kx_6 (gTaxi_s ha) 9 (by decide) kf_6_9 rfl (gTaxi_f9 ha) dX6_removeStop_34 ?_
            refine zk_iload_n (pc := 37) B dX6_removeStop_37 3 rfl rfl ?_
            refine zk_iald (pc := 38) B (gTaxi_t9 ha) dX6_removeStop_38 ?_
            refine zk_iast (pc := 39) B (gTaxi_t9 ha) dX6_removeStop_39 ?_
            refine zk_lm (fun M2 => ?_)
            refine zk_iinc (y := 1) (lf := fun x3 => [(2, .int x3), (0, .ref a), (1, .int v1), (3, .int v3)]) (pc := 40) B dX6_removeStop_40 2 rfl (by decide) (by decide) (fun _ => rfl) (fun x3 => ?_)
            refine zk_iinc (y := 1) (lf := fun x4 => [(3, .int x4), (2, .int x3), (0, .ref a), (1, .int v1)]) (pc := 43) B dX6_removeStop_43 3 rfl (by decide) (by decide) (fun _ => rfl) (fun x4 => ?_)
            refine zk_goto (tgt := 4) (pc := 46) B dX6_removeStop_46 (by decide) ?_
            refine zk_sub [2, 3, 1, 0] rfl ?_
            exact ih4 v1 x3 x4 M2
  show z_K X F 4 0 0 G z_cvm b 0 0 0 [(0, .ref a), (1, .int p0)] [] M (F_Taxi_removeStop a p0 M)
  unfold F_Taxi_removeStop
  refine zk_iconst (v := 0) (pc := 0) B dX6_removeStop_0 (by decide) ?_
  refine zk_istore_n (loc' := [(2, .int 0), (0, .ref a), (1, .int p0)]) (pc := 1) B dX6_removeStop_1 rfl (by decide) rfl ?_
  refine zk_iconst (v := 0) (pc := 2) B dX6_removeStop_2 (by decide) ?_
  refine zk_istore_n (loc' := [(3, .int 0), (2, .int 0), (0, .ref a), (1, .int p0)]) (pc := 3) B dX6_removeStop_3 rfl (by decide) rfl ?_
  refine zk_sub [2, 3, 1, 0] rfl ?_
  exact L4 10000 p0 0 0 M
set_option maxHeartbeats 4000000 in
set_option maxRecDepth 100000 in
theorem m_Taxi_takeAboard {X : z_X} (hX : z_ok X) {G : z_Gr} {a : Nat} (ha : g_Taxi G a) (p0 : Int32) (M : z_Mem) (b : z_Mem) (h : F_Taxi_takeAboard a p0 M = some b) : z_Ct X yX6_takeAboard cX6_takeAboard 2 none ({ frames := 0, cells := 0, slots := 0, locals := 0 } : Room) [.ref a, .int p0] G M (fun o9 G9 M9 => G9 = G ∧ (o9, M9) = z_cvm b) := by
  refine z_enter hX (by decide) (Nat.le_of_ble_eq_true rfl) h (fun F B hR => ?_)
  show z_K X F 2 0 0 G z_cvm b 0 0 0 [(0, .ref a), (1, .int p0)] [] M (F_Taxi_takeAboard a p0 M)
  unfold F_Taxi_takeAboard
  refine zk_aload_n (pc := 0) B dX6_takeAboard_0 0 rfl rfl ?_
  refine zk_geti (pc := 1) B kx_6 (gTaxi_s ha) 8 (by decide) kf_6_43 rfl dX6_takeAboard_1 ?_
  refine zk_if_lt (tgt := 36) (pc := 4) B dX6_takeAboard_4 (by decide) (fun _ => ?_) (fun _ => ?_)
  · exact zk_vret (pc := 36) B dX6_takeAboard_36 rfl (Nat.le_of_ble_eq_true rfl) (Nat.le_of_ble_eq_true rfl) rfl
  · refine zk_aload_n (pc := 7) B dX6_takeAboard_7 0 rfl rfl ?_
    refine zk_geti (pc := 8) B kx_6 (gTaxi_s ha) 8 (by decide) kf_6_43 rfl dX6_takeAboard_8 ?_
    refine zk_bipush (v := 6) (pc := 11) B dX6_takeAboard_11 (by decide) ?_
    refine zk_icmp_ge (tgt := 36) (pc := 13) B dX6_takeAboard_13 (by decide) (fun _ => ?_) (fun _ => ?_)
    · exact zk_vret (pc := 36) B dX6_takeAboard_36 rfl (Nat.le_of_ble_eq_true rfl) (Nat.le_of_ble_eq_true rfl) rfl
    · refine zk_aload_n (pc := 16) B dX6_takeAboard_16 0 rfl rfl ?_
      refine zk_getr (pc := 17) B kx_6 (gTaxi_s ha) 10 (by decide) kf_6_15 rfl (gTaxi_f10 ha) dX6_takeAboard_17 ?_
      refine zk_aload_n (pc := 20) B dX6_takeAboard_20 0 rfl rfl ?_
      refine zk_geti (pc := 21) B kx_6 (gTaxi_s ha) 8 (by decide) kf_6_43 rfl dX6_takeAboard_21 ?_
      refine zk_iload_n (pc := 24) B dX6_takeAboard_24 1 rfl rfl ?_
      refine zk_iast (pc := 25) B (gTaxi_t10 ha) dX6_takeAboard_25 ?_
      refine zk_lm (fun M1 => ?_)
      refine zk_aload_n (pc := 26) B dX6_takeAboard_26 0 rfl rfl ?_
      refine zk_dup (pc := 27) B dX6_takeAboard_27 rfl ?_
      refine zk_geti (pc := 28) B kx_6 (gTaxi_s ha) 8 (by decide) kf_6_43 rfl dX6_takeAboard_28 ?_
      refine zk_iconst (v := 1) (pc := 31) B dX6_takeAboard_31 (by decide) ?_
      refine zk_iadd (pc := 32) B dX6_takeAboard_32 ?_
      refine zk_puti (pc := 33) B kx_6 (gTaxi_s ha) 8 (by decide) kf_6_43 rfl rfl rfl rfl dX6_takeAboard_33 ?_
      refine zk_lm (fun M2 => ?_)
      exact zk_vret (pc := 36) B dX6_takeAboard_36 rfl (Nat.le_of_ble_eq_true rfl) (Nat.le_of_ble_eq_true rfl) rfl
set_option maxHeartbeats 4000000 in
set_option maxRecDepth 100000 in
theorem m_Taxi_letOut {X : z_X} (hX : z_ok X) {G : z_Gr} {a : Nat} (ha : g_Taxi G a) (p0 : Int32) (M : z_Mem) (b : z_Mem) (h : F_Taxi_letOut a p0 M = some b) : z_Ct X yX6_letOut cX6_letOut 4 none ({ frames := 0, cells := 0, slots := 0, locals := 0 } : Room) [.ref a, .int p0] G M (fun o9 G9 M9 => G9 = G ∧ (o9, M9) = z_cvm b) := by
  refine z_enter hX (by decide) (Nat.le_of_ble_eq_true rfl) h (fun F B hR => ?_)
  have J49 : ∀ (v2 : Int32) (M : z_Mem), z_K X F 4 0 0 G z_cvm b 0 0 49 [(0, .ref a), (2, .int v2)] [] M (F_Taxi_letOut_J49 a v2 M) := by
    intro v2 M
    unfold F_Taxi_letOut_J49
    refine zk_aload_n (pc := 49) B dX6_letOut_49 0 rfl rfl ?_
    refine zk_iload_n (pc := 50) B dX6_letOut_50 1 rfl rfl ?_
    refine zk_puti (pc := 51) B kx_6 (gTaxi_s ha) 8 (by decide) kf_6_43 rfl rfl rfl rfl dX6_letOut_51 ?_
    refine zk_lm (fun M5 => ?_)
    exact zk_vret (pc := 54) B dX6_letOut_54 rfl (Nat.le_of_ble_eq_true rfl) (Nat.le_of_ble_eq_true rfl) rfl
  have L4 : ∀ (nf4 : Nat), ∀ (v1 : Int32) (v2 : Int32) (v3 : Int32) (M : z_Mem), z_K X F 4 0 0 G z_cvm b 0 0 4 [(0, .ref a), (1, .int v1), (2, .int v2), (3, .int v3)] [] M (F_Taxi_letOut_L4 a nf4 v1 v2 v3 M) := by
    intro nf4
    induction nf4 with
    | zero => intro v1 v2 v3 M; exact zk_none
    | succ nf4 ih4 =>
      intro v1 v2 v3 M
      show z_K X F 4 0 0 G z_cvm b 0 0 4 [(0, .ref a), (1, .int v1), (2, .int v2), (3, .int v3)] [] M (F_Taxi_letOut_B4 a (F_Taxi_letOut_L4 a nf4) v1 v2 v3 M)
      unfold F_Taxi_letOut_B4
      refine zk_iload_n (pc := 4) B dX6_letOut_4 3 rfl rfl ?_
      refine zk_aload_n (pc := 5) B dX6_letOut_5 0 rfl rfl ?_
      refine zk_geti (pc := 6) B kx_6 (gTaxi_s ha) 8 (by decide) kf_6_43 rfl dX6_letOut_6 ?_
      refine zk_icmp_ge (tgt := 49) (pc := 9) B dX6_letOut_9 (by decide) (fun _ => ?_) (fun _ => ?_)
      · refine zk_sub [0, 2] rfl ?_
        exact J49 v2 M
      · refine zk_iload_n (pc := 12) B dX6_letOut_12 3 rfl rfl ?_
        refine zk_bipush (v := 6) (pc := 13) B dX6_letOut_13 (by decide) ?_
        refine zk_icmp_ge (tgt := 49) (pc := 15) B dX6_letOut_15 (by decide) (fun _ => ?_) (fun _ => ?_)
        · refine zk_sub [0, 2] rfl ?_
          exact J49 v2 M
        · refine zk_aload_n (pc := 18) B dX6_letOut_18 0 rfl rfl ?_
          refine zk_getr (pc := 19) B kx_6 (gTaxi_s ha) 10 (by decide) kf_6_15 rfl (gTaxi_f10 ha) dX6_letOut_19 ?_
          refine zk_iload_n (pc := 22) B dX6_letOut_22 3 rfl rfl ?_
          refine zk_iald (pc := 23) B (gTaxi_t10 ha) dX6_letOut_23 ?_
          refine zk_iload_n (pc := 24) B dX6_letOut_24 1 rfl rfl ?_
          refine zk_icmp_eq (tgt := 43) (pc := 25) B dX6_letOut_25 (by decide) (fun _ => ?_) (fun _ => ?_)
          · refine zk_iinc (y := 1) (lf := fun x1 => [(3, .int x1), (0, .ref a), (1, .int v1), (2, .int v2)]) (pc := 43) B dX6_letOut_43 3 rfl (by decide) (by decide) (fun _ => rfl) (fun x1 => ?_)
            refine zk_goto (tgt := 4) (pc := 46) B dX6_letOut_46 (by decide) ?_
            refine zk_sub [1, 2, 3, 0] rfl ?_
            exact ih4 v1 v2 x1 M
          · refine zk_aload_n (pc := 28) B dX6_letOut_28 0 rfl rfl ?_
            refine zk_getr (pc := 29) B kx_6 (gTaxi_s ha) 10 (by decide) kf_6_15 rfl (gTaxi_f10 ha) dX6_letOut_29 ?_
            refine zk_iload_n (pc := 32) B dX6_letOut_32 2 rfl rfl ?_
            refine zk_aload_n (pc := 33) B dX6_letOut_33 0 rfl rfl ?_
            refine zk_getr (pc := 34) B kx_6 (gTaxi_s ha) 10 (by decide) kf_6_15 rfl (gTaxi_f10 ha) dX6_letOut_34 ?_
            refine zk_iload_n (pc := 37) B dX6_letOut_37 3 rfl rfl ?_
            refine zk_iald (pc := 38) B (gTaxi_t10 ha) dX6_letOut_38 ?_
            refine zk_iast (pc := 39) B (gTaxi_t10 ha) dX6_letOut_39 ?_
            refine zk_lm (fun M2 => ?_)
            refine zk_iinc (y := 1) (lf := fun x3 => [(2, .int x3), (0, .ref a), (1, .int v1), (3, .int v3)]) (pc := 40) B dX6_letOut_40 2 rfl (by decide) (by decide) (fun _ => rfl) (fun x3 => ?_)
            refine zk_iinc (y := 1) (lf := fun x4 => [(3, .int x4), (2, .int x3), (0, .ref a), (1, .int v1)]) (pc := 43) B dX6_letOut_43 3 rfl (by decide) (by decide) (fun _ => rfl) (fun x4 => ?_)
            refine zk_goto (tgt := 4) (pc := 46) B dX6_letOut_46 (by decide) ?_
            refine zk_sub [2, 3, 1, 0] rfl ?_
            exact ih4 v1 x3 x4 M2
  show z_K X F 4 0 0 G z_cvm b 0 0 0 [(0, .ref a), (1, .int p0)] [] M (F_Taxi_letOut a p0 M)
  unfold F_Taxi_letOut
  refine zk_iconst (v := 0) (pc := 0) B dX6_letOut_0 (by decide) ?_
  refine zk_istore_n (loc' := [(2, .int 0), (0, .ref a), (1, .int p0)]) (pc := 1) B dX6_letOut_1 rfl (by decide) rfl ?_
  refine zk_iconst (v := 0) (pc := 2) B dX6_letOut_2 (by decide) ?_
  refine zk_istore_n (loc' := [(3, .int 0), (2, .int 0), (0, .ref a), (1, .int p0)]) (pc := 3) B dX6_letOut_3 rfl (by decide) rfl ?_
  refine zk_sub [2, 3, 1, 0] rfl ?_
  exact L4 10000 p0 0 0 M
set_option maxHeartbeats 4000000 in
set_option maxRecDepth 100000 in
theorem m_Tokens_takeNumber {X : z_X} (hX : z_ok X) {G : z_Gr} {o : Nat} (hG : g_Sys G o) (p0 : Int32) (p1 : Int32) (M : z_Mem) (b : Int32 × z_Mem) (h : F_Tokens_takeNumber o p0 p1 M = some b) : z_Ct X yX8_takeNumber cX8_takeNumber 4 (some .int) ({ frames := 2, cells := 0, slots := 0, locals := 43 } : Room) [.ref (o + 499), .int p0, .int p1] G M (fun o9 G9 M9 => G9 = G ∧ (o9, M9) = z_cim b) := by
  refine z_enter hX (by decide) (Nat.le_of_ble_eq_true rfl) h (fun F B hR => ?_)
  show z_K X F 4 0 0 G z_cim b 0 0 0 [(0, .ref (o + 499)), (1, .int p0), (2, .int p1)] [] M (F_Tokens_takeNumber o p0 p1 M)
  unfold F_Tokens_takeNumber
  refine zk_aload_n (pc := 0) B dX8_takeNumber_0 0 rfl rfl ?_
  refine zk_iload_n (pc := 1) B dX8_takeNumber_1 1 rfl rfl ?_
  refine zk_iload_n (pc := 2) B dX8_takeNumber_2 2 rfl rfl ?_
  refine zk_cim (pc := 3) (k' := 0) (n' := 0) B rfl rfl (Nat.le_of_ble_eq_true rfl) (Nat.le_of_ble_eq_true rfl) (fun b hb => zr_V B hR kV_yX8_checkNumber km_8_97 kx_8 (gTokens_s hG) [.int p0, .int p1] rfl rfl (Nat.le_of_ble_eq_true rfl) dX8_takeNumber_3 (m_Tokens_checkNumber hX hG p0 p1 M b hb) ⟨Nat.le_of_ble_eq_true rfl, Nat.le_of_ble_eq_true rfl⟩ ⟨Nat.le_of_ble_eq_true rfl, Nat.le_of_ble_eq_true rfl⟩) (fun x2 M1 => ?_)
  refine zk_istore_n (loc' := [(3, .int x2), (0, .ref (o + 499)), (1, .int p0), (2, .int p1)]) (pc := 6) B dX8_takeNumber_6 rfl (by decide) rfl ?_
  refine zk_aload_n (pc := 7) B dX8_takeNumber_7 1 rfl rfl ?_
  refine zk_cvm (pc := 8) (k' := 0) (n' := 0) B rfl rfl (Nat.le_of_ble_eq_true rfl) (Nat.le_of_ble_eq_true rfl) (fun b hb => zr_V B hR kV_yX8_next km_8_59 kx_8 (gTokens_s hG) [] rfl rfl (Nat.le_of_ble_eq_true rfl) dX8_takeNumber_8 (m_Tokens_next hX hG M1 b hb) ⟨Nat.le_of_ble_eq_true rfl, Nat.le_of_ble_eq_true rfl⟩ ⟨Nat.le_of_ble_eq_true rfl, Nat.le_of_ble_eq_true rfl⟩) (fun M3 => ?_)
  refine zk_iload_n (pc := 11) B dX8_takeNumber_11 0 rfl rfl ?_
  exact zk_iret (pc := 12) B dX8_takeNumber_12 rfl rfl (Nat.le_of_ble_eq_true rfl) (Nat.le_of_ble_eq_true rfl) rfl
set_option maxHeartbeats 4000000 in
set_option maxRecDepth 100000 in
theorem m_Town_clear {X : z_X} (hX : z_ok X) {G : z_Gr} {a : Nat} (ha : g_Town G a) (p0 : Int32) (M : z_Mem) (b : z_Mem) (h : F_Town_clear a p0 M = some b) : z_Ct X yX9_clear cX9_clear 4 none ({ frames := 0, cells := 0, slots := 0, locals := 0 } : Room) [.ref a, .int p0] G M (fun o9 G9 M9 => G9 = G ∧ (o9, M9) = z_cvm b) := by
  refine z_enter hX (by decide) (Nat.le_of_ble_eq_true rfl) h (fun F B hR => ?_)
  have L12 : ∀ (nf12 : Nat), ∀ (v2 : Int32) (M : z_Mem), z_K X F 4 0 0 G z_cvm b 0 0 12 [(0, .ref a), (2, .int v2)] [] M (F_Town_clear_L12 a nf12 v2 M) := by
    intro nf12
    induction nf12 with
    | zero => intro v2 M; exact zk_none
    | succ nf12 ih12 =>
      have L20 : ∀ (nf20 : Nat), ∀ (v2 : Int32) (v3 : Int32) (M : z_Mem), z_K X F 4 0 0 G z_cvm b 0 0 20 [(0, .ref a), (2, .int v2), (3, .int v3)] [] M (F_Town_clear_L20 a (F_Town_clear_L12 a nf12) nf20 v2 v3 M) := by
        intro nf20
        induction nf20 with
        | zero => intro v2 v3 M; exact zk_none
        | succ nf20 ih20 =>
          have J46 : ∀ (v2 : Int32) (v3 : Int32) (s0 : Int32) (s1 : Int32) (M : z_Mem), z_K X F 4 0 0 G z_cvm b 0 0 46 [(0, .ref a), (2, .int v2), (3, .int v3)] [.int s0, .int s1, .ref (a + 1)] M (F_Town_clear_J46 a (F_Town_clear_L12 a nf12) (F_Town_clear_L20 a (F_Town_clear_L12 a nf12) nf20) v2 v3 s0 s1 M) := by
            intro v2 v3 s0 s1 M
            unfold F_Town_clear_J46
            refine zk_iast (pc := 46) B (gTown_t2 ha) dX9_clear_46 ?_
            refine zk_lm (fun M4 => ?_)
            refine zk_iinc (y := 1) (lf := fun x5 => [(3, .int x5), (0, .ref a), (2, .int v2)]) (pc := 47) B dX9_clear_47 2 rfl (by decide) (by decide) (fun _ => rfl) (fun x5 => ?_)
            refine zk_goto (tgt := 20) (pc := 50) B dX9_clear_50 (by decide) ?_
            refine zk_sub [1, 2, 0] rfl ?_
            exact ih20 v2 x5 M4
          intro v2 v3 M
          show z_K X F 4 0 0 G z_cvm b 0 0 20 [(0, .ref a), (2, .int v2), (3, .int v3)] [] M (F_Town_clear_B20 a (F_Town_clear_L12 a nf12) (F_Town_clear_L20 a (F_Town_clear_L12 a nf12) nf20) v2 v3 M)
          unfold F_Town_clear_B20
          refine zk_iload_n (pc := 20) B dX9_clear_20 2 rfl rfl ?_
          refine zk_bipush (v := 8) (pc := 21) B dX9_clear_21 (by decide) ?_
          refine zk_icmp_ge (tgt := 53) (pc := 23) B dX9_clear_23 (by decide) (fun _ => ?_) (fun _ => ?_)
          · refine zk_iinc (y := 1) (lf := fun x3 => [(2, .int x3), (0, .ref a), (3, .int v3)]) (pc := 53) B dX9_clear_53 1 rfl (by decide) (by decide) (fun _ => rfl) (fun x3 => ?_)
            refine zk_goto (tgt := 12) (pc := 56) B dX9_clear_56 (by decide) ?_
            refine zk_sub [1, 0] rfl ?_
            exact ih12 x3 M
          · refine zk_aload_n (pc := 26) B dX9_clear_26 0 rfl rfl ?_
            refine zk_getr (pc := 27) B kx_9 (gTown_s ha) 2 (by decide) kf_9_9 rfl (gTown_f2 ha) dX9_clear_27 ?_
            refine zk_iload_n (pc := 30) B dX9_clear_30 1 rfl rfl ?_
            refine zk_bipush (v := 8) (pc := 31) B dX9_clear_31 (by decide) ?_
            refine zk_imul (pc := 33) B dX9_clear_33 ?_
            refine zk_iload_n (pc := 34) B dX9_clear_34 2 rfl rfl ?_
            refine zk_iadd (pc := 35) B dX9_clear_35 ?_
            refine zk_iload_n (pc := 36) B dX9_clear_36 1 rfl rfl ?_
            refine zk_iload_n (pc := 37) B dX9_clear_37 2 rfl rfl ?_
            refine zk_icmp_ne (tgt := 45) (pc := 38) B dX9_clear_38 (by decide) (fun _ => ?_) (fun _ => ?_)
            · refine zk_iconst (v := (-1)) (pc := 45) B dX9_clear_45 (by decide) ?_
              exact J46 v2 v3 (-1) ((v2 * 8) + v3) M
            · refine zk_iconst (v := 0) (pc := 41) B dX9_clear_41 (by decide) ?_
              refine zk_goto (tgt := 46) (pc := 42) B dX9_clear_42 (by decide) ?_
              exact J46 v2 v3 0 ((v2 * 8) + v3) M
      intro v2 M
      show z_K X F 4 0 0 G z_cvm b 0 0 12 [(0, .ref a), (2, .int v2)] [] M (F_Town_clear_B12 a (F_Town_clear_L12 a nf12) v2 M)
      unfold F_Town_clear_B12
      refine zk_iload_n (pc := 12) B dX9_clear_12 1 rfl rfl ?_
      refine zk_bipush (v := 8) (pc := 13) B dX9_clear_13 (by decide) ?_
      refine zk_icmp_ge (tgt := 59) (pc := 15) B dX9_clear_15 (by decide) (fun _ => ?_) (fun _ => ?_)
      · exact zk_vret (pc := 59) B dX9_clear_59 rfl (Nat.le_of_ble_eq_true rfl) (Nat.le_of_ble_eq_true rfl) rfl
      · refine zk_iconst (v := 0) (pc := 18) B dX9_clear_18 (by decide) ?_
        refine zk_istore_n (loc' := [(3, .int 0), (0, .ref a), (2, .int v2)]) (pc := 19) B dX9_clear_19 rfl (by decide) rfl ?_
        refine zk_sub [1, 2, 0] rfl ?_
        exact L20 10000 v2 0 M
  show z_K X F 4 0 0 G z_cvm b 0 0 0 [(0, .ref a), (1, .int p0)] [] M (F_Town_clear a p0 M)
  unfold F_Town_clear
  refine zk_aload_n (pc := 0) B dX9_clear_0 0 rfl rfl ?_
  refine zk_iload_n (pc := 1) B dX9_clear_1 1 rfl rfl ?_
  refine zk_puti (pc := 2) B kx_9 (gTown_s ha) 0 (by decide) kf_9_15 rfl rfl rfl rfl dX9_clear_2 ?_
  refine zk_lm (fun M1 => ?_)
  refine zk_aload_n (pc := 5) B dX9_clear_5 0 rfl rfl ?_
  refine zk_iconst (v := 0) (pc := 6) B dX9_clear_6 (by decide) ?_
  refine zk_puti (pc := 7) B kx_9 (gTown_s ha) 1 (by decide) kf_9_19 rfl rfl rfl rfl dX9_clear_7 ?_
  refine zk_lm (fun M2 => ?_)
  refine zk_iconst (v := 0) (pc := 10) B dX9_clear_10 (by decide) ?_
  refine zk_istore_n (loc' := [(2, .int 0), (0, .ref a), (1, .int p0)]) (pc := 11) B dX9_clear_11 rfl (by decide) rfl ?_
  refine zk_sub [1, 0] rfl ?_
  exact L12 10000 0 M2
set_option maxHeartbeats 4000000 in
set_option maxRecDepth 100000 in
theorem m_Town_addRoad {X : z_X} (hX : z_ok X) {G : z_Gr} {a : Nat} (ha : g_Town G a) (p0 : Int32) (p1 : Int32) (p2 : Int32) (M : z_Mem) (b : z_Mem) (h : F_Town_addRoad a p0 p1 p2 M = some b) : z_Ct X yX9_addRoad cX9_addRoad 4 none ({ frames := 1, cells := 0, slots := 0, locals := 21 } : Room) [.ref a, .int p0, .int p1, .int p2] G M (fun o9 G9 M9 => G9 = G ∧ (o9, M9) = z_cvm b) := by
  refine z_enter hX (by decide) (Nat.le_of_ble_eq_true rfl) h (fun F B hR => ?_)
  show z_K X F 4 0 0 G z_cvm b 0 0 0 [(0, .ref a), (1, .int p0), (2, .int p1), (3, .int p2)] [] M (F_Town_addRoad a p0 p1 p2 M)
  unfold F_Town_addRoad
  refine zk_iload_n (pc := 0) B dX9_addRoad_0 1 rfl rfl ?_
  refine zk_iload_n (pc := 1) B dX9_addRoad_1 2 rfl rfl ?_
  refine zk_cpi (pc := 2) (k' := 0) (n' := 0) B rfl rfl (Nat.le_of_ble_eq_true rfl) (Nat.le_of_ble_eq_true rfl) (fun b hb => zr_S B hR kS_yX9_hasPlaces km_9_22 [.int p0, .int p1] rfl rfl (Nat.le_of_ble_eq_true rfl) dX9_addRoad_2 (m_Town_hasPlaces hX p0 p1 M b hb) ⟨Nat.le_of_ble_eq_true rfl, Nat.le_of_ble_eq_true rfl⟩ ⟨Nat.le_of_ble_eq_true rfl, Nat.le_of_ble_eq_true rfl⟩) (fun x1 _ => ?_)
  refine zk_if_ne (tgt := 9) (pc := 5) B dX9_addRoad_5 (by decide) (fun _ => ?_) (fun _ => ?_)
  · refine zk_aload_n (pc := 9) B dX9_addRoad_9 0 rfl rfl ?_
    refine zk_dup (pc := 10) B dX9_addRoad_10 rfl ?_
    refine zk_geti (pc := 11) B kx_9 (gTown_s ha) 1 (by decide) kf_9_19 rfl dX9_addRoad_11 ?_
    refine zk_iconst (v := 1) (pc := 14) B dX9_addRoad_14 (by decide) ?_
    refine zk_iadd (pc := 15) B dX9_addRoad_15 ?_
    refine zk_puti (pc := 16) B kx_9 (gTown_s ha) 1 (by decide) kf_9_19 rfl rfl rfl rfl dX9_addRoad_16 ?_
    refine zk_lm (fun M2 => ?_)
    refine zk_aload_n (pc := 19) B dX9_addRoad_19 0 rfl rfl ?_
    refine zk_getr (pc := 20) B kx_9 (gTown_s ha) 2 (by decide) kf_9_9 rfl (gTown_f2 ha) dX9_addRoad_20 ?_
    refine zk_iload_n (pc := 23) B dX9_addRoad_23 1 rfl rfl ?_
    refine zk_bipush (v := 8) (pc := 24) B dX9_addRoad_24 (by decide) ?_
    refine zk_imul (pc := 26) B dX9_addRoad_26 ?_
    refine zk_iload_n (pc := 27) B dX9_addRoad_27 2 rfl rfl ?_
    refine zk_iadd (pc := 28) B dX9_addRoad_28 ?_
    refine zk_iload_n (pc := 29) B dX9_addRoad_29 3 rfl rfl ?_
    refine zk_iast (pc := 30) B (gTown_t2 ha) dX9_addRoad_30 ?_
    refine zk_lm (fun M3 => ?_)
    refine zk_aload_n (pc := 31) B dX9_addRoad_31 0 rfl rfl ?_
    refine zk_getr (pc := 32) B kx_9 (gTown_s ha) 2 (by decide) kf_9_9 rfl (gTown_f2 ha) dX9_addRoad_32 ?_
    refine zk_iload_n (pc := 35) B dX9_addRoad_35 2 rfl rfl ?_
    refine zk_bipush (v := 8) (pc := 36) B dX9_addRoad_36 (by decide) ?_
    refine zk_imul (pc := 38) B dX9_addRoad_38 ?_
    refine zk_iload_n (pc := 39) B dX9_addRoad_39 1 rfl rfl ?_
    refine zk_iadd (pc := 40) B dX9_addRoad_40 ?_
    refine zk_iload_n (pc := 41) B dX9_addRoad_41 3 rfl rfl ?_
    refine zk_iast (pc := 42) B (gTown_t2 ha) dX9_addRoad_42 ?_
    refine zk_lm (fun M4 => ?_)
    exact zk_vret (pc := 43) B dX9_addRoad_43 rfl (Nat.le_of_ble_eq_true rfl) (Nat.le_of_ble_eq_true rfl) rfl
  · exact zk_vret (pc := 8) B dX9_addRoad_8 rfl (Nat.le_of_ble_eq_true rfl) (Nat.le_of_ble_eq_true rfl) rfl
set_option maxHeartbeats 4000000 in
set_option maxRecDepth 100000 in
theorem m_TextReader_readRoad {X : z_X} (hX : z_ok X) {G : z_Gr} {o : Nat} (hG : g_Sys G o) (M : z_Mem) (b : z_Mem) (h : F_TextReader_readRoad o M = some b) : z_Ct X yX7_readRoad cX7_readRoad 3 none ({ frames := 3, cells := 0, slots := 0, locals := 66 } : Room) [.ref (o + 504)] G M (fun o9 G9 M9 => G9 = G ∧ (o9, M9) = z_cvm b) := by
  refine z_enter hX (by decide) (Nat.le_of_ble_eq_true rfl) h (fun F B hR => ?_)
  have J57 : ∀ (v1 : Int32) (v2 : Int32) (M : z_Mem), z_K X F 3 0 0 G z_cvm b 0 0 57 [(0, .ref (o + 504)), (1, .int v1), (2, .int v2)] [] M (F_TextReader_readRoad_J57 o v1 v2 M) := by
    intro v1 v2 M
    unfold F_TextReader_readRoad_J57
    refine zk_aload_n (pc := 57) B dX7_readRoad_57 0 rfl rfl ?_
    refine zk_getr (pc := 58) B kx_7 (gTextReader_s hG) 2 (by decide) kf_7_25 rfl (gTextReader_f2 hG) dX7_readRoad_58 ?_
    refine zk_cvm (pc := 61) (k' := 0) (n' := 0) B rfl rfl (Nat.le_of_ble_eq_true rfl) (Nat.le_of_ble_eq_true rfl) (fun b hb => zr_V B hR kV_yX8_next km_7_93 kx_8 (gTokens_s hG) [] rfl rfl (Nat.le_of_ble_eq_true rfl) dX7_readRoad_61 (m_Tokens_next hX hG M b hb) ⟨Nat.le_of_ble_eq_true rfl, Nat.le_of_ble_eq_true rfl⟩ ⟨Nat.le_of_ble_eq_true rfl, Nat.le_of_ble_eq_true rfl⟩) (fun M7 => ?_)
    refine zk_aload_n (pc := 64) B dX7_readRoad_64 0 rfl rfl ?_
    refine zk_getr (pc := 65) B kx_7 (gTextReader_s hG) 0 (by decide) kf_7_12 rfl (gTextReader_f0 hG) dX7_readRoad_65 ?_
    refine zk_iload_n (pc := 68) B dX7_readRoad_68 1 rfl rfl ?_
    refine zk_iload_n (pc := 69) B dX7_readRoad_69 2 rfl rfl ?_
    refine zk_aload_n (pc := 70) B dX7_readRoad_70 0 rfl rfl ?_
    refine zk_getr (pc := 71) B kx_7 (gTextReader_s hG) 2 (by decide) kf_7_25 rfl (gTextReader_f2 hG) dX7_readRoad_71 ?_
    refine zk_iconst (v := 1) (pc := 74) B dX7_readRoad_74 (by decide) ?_
    refine zk_bipush (v := 99) (pc := 75) B dX7_readRoad_75 (by decide) ?_
    refine zk_cim (pc := 77) (k' := 0) (n' := 0) B rfl rfl (Nat.le_of_ble_eq_true rfl) (Nat.le_of_ble_eq_true rfl) (fun b hb => zr_V B hR kV_yX8_takeNumber km_7_38 kx_8 (gTokens_s hG) [.int 1, .int 99] rfl rfl (Nat.le_of_ble_eq_true rfl) dX7_readRoad_77 (m_Tokens_takeNumber hX hG 1 99 M7 b hb) ⟨Nat.le_of_ble_eq_true rfl, Nat.le_of_ble_eq_true rfl⟩ ⟨Nat.le_of_ble_eq_true rfl, Nat.le_of_ble_eq_true rfl⟩) (fun x9 M8 => ?_)
    refine zk_cvm (pc := 80) (k' := 0) (n' := 0) B rfl rfl (Nat.le_of_ble_eq_true rfl) (Nat.le_of_ble_eq_true rfl) (fun b hb => zr_V B hR kV_yX9_addRoad km_7_96 kx_9 (gTown_s (gTextReader_t0 hG)) [.int v1, .int v2, .int x9] rfl rfl (Nat.le_of_ble_eq_true rfl) dX7_readRoad_80 (m_Town_addRoad hX (gTextReader_t0 hG) v1 v2 x9 M8 b hb) ⟨Nat.le_of_ble_eq_true rfl, Nat.le_of_ble_eq_true rfl⟩ ⟨Nat.le_of_ble_eq_true rfl, Nat.le_of_ble_eq_true rfl⟩) (fun M10 => ?_)
    exact zk_vret (pc := 83) B dX7_readRoad_83 rfl (Nat.le_of_ble_eq_true rfl) (Nat.le_of_ble_eq_true rfl) rfl
  show z_K X F 3 0 0 G z_cvm b 0 0 0 [(0, .ref (o + 504))] [] M (F_TextReader_readRoad o M)
  unfold F_TextReader_readRoad
  refine zk_aload_n (pc := 0) B dX7_readRoad_0 0 rfl rfl ?_
  refine zk_getr (pc := 1) B kx_7 (gTextReader_s hG) 2 (by decide) kf_7_25 rfl (gTextReader_f2 hG) dX7_readRoad_1 ?_
  refine zk_iconst (v := 0) (pc := 4) B dX7_readRoad_4 (by decide) ?_
  refine zk_aload_n (pc := 5) B dX7_readRoad_5 0 rfl rfl ?_
  refine zk_getr (pc := 6) B kx_7 (gTextReader_s hG) 0 (by decide) kf_7_12 rfl (gTextReader_f0 hG) dX7_readRoad_6 ?_
  refine zk_geti (pc := 9) B kx_9 (gTown_s (gTextReader_t0 hG)) 0 (by decide) kf_7_84 rfl dX7_readRoad_9 ?_
  refine zk_iconst (v := 1) (pc := 12) B dX7_readRoad_12 (by decide) ?_
  refine zk_isub (pc := 13) B dX7_readRoad_13 ?_
  refine zk_cim (pc := 14) (k' := 0) (n' := 0) B rfl rfl (Nat.le_of_ble_eq_true rfl) (Nat.le_of_ble_eq_true rfl) (fun b hb => zr_V B hR kV_yX8_takeNumber km_7_38 kx_8 (gTokens_s hG) [.int 0, .int ((M.1 (o + 505) 0) - 1)] rfl rfl (Nat.le_of_ble_eq_true rfl) dX7_readRoad_14 (m_Tokens_takeNumber hX hG 0 ((M.1 (o + 505) 0) - 1) M b hb) ⟨Nat.le_of_ble_eq_true rfl, Nat.le_of_ble_eq_true rfl⟩ ⟨Nat.le_of_ble_eq_true rfl, Nat.le_of_ble_eq_true rfl⟩) (fun x2 M1 => ?_)
  refine zk_istore_n (loc' := [(1, .int x2), (0, .ref (o + 504))]) (pc := 17) B dX7_readRoad_17 rfl (by decide) rfl ?_
  refine zk_aload_n (pc := 18) B dX7_readRoad_18 1 rfl rfl ?_
  refine zk_getr (pc := 19) B kx_7 (gTextReader_s hG) 2 (by decide) kf_7_25 rfl (gTextReader_f2 hG) dX7_readRoad_19 ?_
  refine zk_iconst (v := 0) (pc := 22) B dX7_readRoad_22 (by decide) ?_
  refine zk_aload_n (pc := 23) B dX7_readRoad_23 1 rfl rfl ?_
  refine zk_getr (pc := 24) B kx_7 (gTextReader_s hG) 0 (by decide) kf_7_12 rfl (gTextReader_f0 hG) dX7_readRoad_24 ?_
  refine zk_geti (pc := 27) B kx_9 (gTown_s (gTextReader_t0 hG)) 0 (by decide) kf_7_84 rfl dX7_readRoad_27 ?_
  refine zk_iconst (v := 1) (pc := 30) B dX7_readRoad_30 (by decide) ?_
  refine zk_isub (pc := 31) B dX7_readRoad_31 ?_
  refine zk_cim (pc := 32) (k' := 0) (n' := 0) B rfl rfl (Nat.le_of_ble_eq_true rfl) (Nat.le_of_ble_eq_true rfl) (fun b hb => zr_V B hR kV_yX8_checkNumber km_7_87 kx_8 (gTokens_s hG) [.int 0, .int ((M1.1 (o + 505) 0) - 1)] rfl rfl (Nat.le_of_ble_eq_true rfl) dX7_readRoad_32 (m_Tokens_checkNumber hX hG 0 ((M1.1 (o + 505) 0) - 1) M1 b hb) ⟨Nat.le_of_ble_eq_true rfl, Nat.le_of_ble_eq_true rfl⟩ ⟨Nat.le_of_ble_eq_true rfl, Nat.le_of_ble_eq_true rfl⟩) (fun x4 M3 => ?_)
  refine zk_istore_n (loc' := [(2, .int x4), (1, .int x2), (0, .ref (o + 504))]) (pc := 35) B dX7_readRoad_35 rfl (by decide) rfl ?_
  refine zk_aload_n (pc := 36) B dX7_readRoad_36 2 rfl rfl ?_
  refine zk_getr (pc := 37) B kx_7 (gTextReader_s hG) 0 (by decide) kf_7_12 rfl (gTextReader_f0 hG) dX7_readRoad_37 ?_
  refine zk_iload_n (pc := 40) B dX7_readRoad_40 1 rfl rfl ?_
  refine zk_iload_n (pc := 41) B dX7_readRoad_41 0 rfl rfl ?_
  refine zk_cpi (pc := 42) (k' := 0) (n' := 0) B rfl rfl (Nat.le_of_ble_eq_true rfl) (Nat.le_of_ble_eq_true rfl) (fun b hb => zr_V B hR kV_yX9_wayMinutes km_7_90 kx_9 (gTown_s (gTextReader_t0 hG)) [.int x2, .int x4] rfl rfl (Nat.le_of_ble_eq_true rfl) dX7_readRoad_42 (m_Town_wayMinutes hX (gTextReader_t0 hG) x2 x4 M3 b hb) ⟨Nat.le_of_ble_eq_true rfl, Nat.le_of_ble_eq_true rfl⟩ ⟨Nat.le_of_ble_eq_true rfl, Nat.le_of_ble_eq_true rfl⟩) (fun x5 _ => ?_)
  refine zk_iconst (v := (-1)) (pc := 45) B dX7_readRoad_45 (by decide) ?_
  refine zk_icmp_eq (tgt := 57) (pc := 46) B dX7_readRoad_46 (by decide) (fun _ => ?_) (fun _ => ?_)
  · refine zk_sub [2, 1, 0] rfl ?_
    exact J57 x2 x4 M3
  · refine zk_aload_n (pc := 49) B dX7_readRoad_49 2 rfl rfl ?_
    refine zk_getr (pc := 50) B kx_7 (gTextReader_s hG) 2 (by decide) kf_7_25 rfl (gTextReader_f2 hG) dX7_readRoad_50 ?_
    refine zk_iconst (v := 4) (pc := 53) B dX7_readRoad_53 (by decide) ?_
    refine zk_cvm (pc := 54) (k' := 0) (n' := 0) B rfl rfl (Nat.le_of_ble_eq_true rfl) (Nat.le_of_ble_eq_true rfl) (fun b hb => zr_V B hR kV_yX8_fail km_7_66 kx_8 (gTokens_s hG) [.int 4] rfl rfl (Nat.le_of_ble_eq_true rfl) dX7_readRoad_54 (m_Tokens_fail hX hG 4 M3 b hb) ⟨Nat.le_of_ble_eq_true rfl, Nat.le_of_ble_eq_true rfl⟩ ⟨Nat.le_of_ble_eq_true rfl, Nat.le_of_ble_eq_true rfl⟩) (fun M6 => ?_)
    refine zk_sub [2, 1, 0] rfl ?_
    exact J57 x2 x4 M6
set_option maxHeartbeats 4000000 in
set_option maxRecDepth 100000 in
theorem m_TextReader_readRuleValue {X : z_X} (hX : z_ok X) {G : z_Gr} {o : Nat} (hG : g_Sys G o) (p0 : Int32) (M : z_Mem) (b : z_Mem) (h : F_TextReader_readRuleValue o p0 M = some b) : z_Ct X yX7_readRuleValue cX7_readRuleValue 2 none ({ frames := 3, cells := 0, slots := 0, locals := 66 } : Room) [.ref (o + 504), .int p0] G M (fun o9 G9 M9 => G9 = G ∧ (o9, M9) = z_cvm b) := by
  refine z_enter hX (by decide) (Nat.le_of_ble_eq_true rfl) h (fun F B hR => ?_)
  show z_K X F 2 0 0 G z_cvm b 0 0 0 [(0, .ref (o + 504)), (1, .int p0)] [] M (F_TextReader_readRuleValue o p0 M)
  unfold F_TextReader_readRuleValue
  refine zk_iload_n (pc := 0) B dX7_readRuleValue_0 1 rfl rfl ?_
  refine zk_if_lt (tgt := 35) (pc := 1) B dX7_readRuleValue_1 (by decide) (fun _ => ?_) (fun _ => ?_)
  · exact zk_vret (pc := 35) B dX7_readRuleValue_35 rfl (Nat.le_of_ble_eq_true rfl) (Nat.le_of_ble_eq_true rfl) rfl
  · refine zk_iload_n (pc := 4) B dX7_readRuleValue_4 1 rfl rfl ?_
    refine zk_bipush (v := 10) (pc := 5) B dX7_readRuleValue_5 (by decide) ?_
    refine zk_icmp_ge (tgt := 35) (pc := 7) B dX7_readRuleValue_7 (by decide) (fun _ => ?_) (fun _ => ?_)
    · exact zk_vret (pc := 35) B dX7_readRuleValue_35 rfl (Nat.le_of_ble_eq_true rfl) (Nat.le_of_ble_eq_true rfl) rfl
    · refine zk_aload_n (pc := 10) B dX7_readRuleValue_10 0 rfl rfl ?_
      refine zk_getr (pc := 11) B kx_7 (gTextReader_s hG) 1 (by decide) kf_7_21 rfl (gTextReader_f1 hG) dX7_readRuleValue_11 ?_
      refine zk_iload_n (pc := 14) B dX7_readRuleValue_14 1 rfl rfl ?_
      refine zk_aload_n (pc := 15) B dX7_readRuleValue_15 0 rfl rfl ?_
      refine zk_getr (pc := 16) B kx_7 (gTextReader_s hG) 2 (by decide) kf_7_25 rfl (gTextReader_f2 hG) dX7_readRuleValue_16 ?_
      refine zk_getsN (pc := 19) B 1 (by decide) z_nest_1 dX7_readRuleValue_19 ?_
      refine zk_iload_n (pc := 22) B dX7_readRuleValue_22 1 rfl rfl ?_
      refine zk_tald (pc := 23) B 1 (by decide) dX7_readRuleValue_23 ?_
      refine zk_getsN (pc := 24) B 2 (by decide) z_nest_2 dX7_readRuleValue_24 ?_
      refine zk_iload_n (pc := 27) B dX7_readRuleValue_27 1 rfl rfl ?_
      refine zk_tald (pc := 28) B 2 (by decide) dX7_readRuleValue_28 ?_
      refine zk_cim (pc := 29) (k' := 0) (n' := 0) B rfl rfl (Nat.le_of_ble_eq_true rfl) (Nat.le_of_ble_eq_true rfl) (fun b hb => zr_V B hR kV_yX8_takeNumber km_7_38 kx_8 (gTokens_s hG) [.int (z_sv 1 p0.toNatClampNeg), .int (z_sv 2 p0.toNatClampNeg)] rfl rfl (Nat.le_of_ble_eq_true rfl) dX7_readRuleValue_29 (m_Tokens_takeNumber hX hG (z_sv 1 p0.toNatClampNeg) (z_sv 2 p0.toNatClampNeg) M b hb) ⟨Nat.le_of_ble_eq_true rfl, Nat.le_of_ble_eq_true rfl⟩ ⟨Nat.le_of_ble_eq_true rfl, Nat.le_of_ble_eq_true rfl⟩) (fun x2 M1 => ?_)
      refine zk_cvm (pc := 32) (k' := 0) (n' := 0) B rfl rfl (Nat.le_of_ble_eq_true rfl) (Nat.le_of_ble_eq_true rfl) (fun b hb => zr_V B hR kV_yX0_changeRule km_7_107 kx_0 (gDesk_s (gTextReader_t1 hG)) [.int p0, .int x2] rfl rfl (Nat.le_of_ble_eq_true rfl) dX7_readRuleValue_32 (m_Desk_changeRule hX (gTextReader_t1 hG) p0 x2 M1 b hb) ⟨Nat.le_of_ble_eq_true rfl, Nat.le_of_ble_eq_true rfl⟩ ⟨Nat.le_of_ble_eq_true rfl, Nat.le_of_ble_eq_true rfl⟩) (fun M3 => ?_)
      exact zk_vret (pc := 35) B dX7_readRuleValue_35 rfl (Nat.le_of_ble_eq_true rfl) (Nat.le_of_ble_eq_true rfl) rfl
set_option maxHeartbeats 4000000 in
set_option maxRecDepth 100000 in
theorem m_TextReader_readTaxi {X : z_X} (hX : z_ok X) {G : z_Gr} {o : Nat} (hG : g_Sys G o) (M : z_Mem) (b : z_Mem) (h : F_TextReader_readTaxi o M = some b) : z_Ct X yX7_readTaxi cX7_readTaxi 5 none ({ frames := 3, cells := 0, slots := 0, locals := 66 } : Room) [.ref (o + 504)] G M (fun o9 G9 M9 => G9 = G ∧ (o9, M9) = z_cvm b) := by
  refine z_enter hX (by decide) (Nat.le_of_ble_eq_true rfl) h (fun F B hR => ?_)
  have J68 : ∀ (v1 : Int32) (v2 : Int32) (v3 : Int32) (v4 : Int32) (M : z_Mem), z_K X F 5 0 0 G z_cvm b 0 0 68 [(0, .ref (o + 504)), (1, .int v1), (2, .int v2), (3, .int v3), (4, .int v4)] [] M (F_TextReader_readTaxi_J68 o v1 v2 v3 v4 M) := by
    intro v1 v2 v3 v4 M
    unfold F_TextReader_readTaxi_J68
    refine zk_aload_n (pc := 68) B dX7_readTaxi_68 0 rfl rfl ?_
    refine zk_getr (pc := 69) B kx_7 (gTextReader_s hG) 2 (by decide) kf_7_25 rfl (gTextReader_f2 hG) dX7_readTaxi_69 ?_
    refine zk_cvm (pc := 72) (k' := 0) (n' := 0) B rfl rfl (Nat.le_of_ble_eq_true rfl) (Nat.le_of_ble_eq_true rfl) (fun b hb => zr_V B hR kV_yX8_next km_7_93 kx_8 (gTokens_s hG) [] rfl rfl (Nat.le_of_ble_eq_true rfl) dX7_readTaxi_72 (m_Tokens_next hX hG M b hb) ⟨Nat.le_of_ble_eq_true rfl, Nat.le_of_ble_eq_true rfl⟩ ⟨Nat.le_of_ble_eq_true rfl, Nat.le_of_ble_eq_true rfl⟩) (fun M10 => ?_)
    refine zk_aload_n (pc := 75) B dX7_readTaxi_75 0 rfl rfl ?_
    refine zk_getr (pc := 76) B kx_7 (gTextReader_s hG) 1 (by decide) kf_7_21 rfl (gTextReader_f1 hG) dX7_readTaxi_76 ?_
    refine zk_geti (pc := 79) B kx_0 (gDesk_s (gTextReader_t1 hG)) 3 (by decide) kf_7_62 rfl dX7_readTaxi_79 ?_
    refine zk_if_lt (tgt := 132) (pc := 82) B dX7_readTaxi_82 (by decide) (fun _ => ?_) (fun _ => ?_)
    · exact zk_vret (pc := 132) B dX7_readTaxi_132 rfl (Nat.le_of_ble_eq_true rfl) (Nat.le_of_ble_eq_true rfl) rfl
    · refine zk_aload_n (pc := 85) B dX7_readTaxi_85 0 rfl rfl ?_
      refine zk_getr (pc := 86) B kx_7 (gTextReader_s hG) 1 (by decide) kf_7_21 rfl (gTextReader_f1 hG) dX7_readTaxi_86 ?_
      refine zk_geti (pc := 89) B kx_0 (gDesk_s (gTextReader_t1 hG)) 3 (by decide) kf_7_62 rfl dX7_readTaxi_89 ?_
      refine zk_iconst (v := 4) (pc := 92) B dX7_readTaxi_92 (by decide) ?_
      refine zk_icmp_ge (tgt := 132) (pc := 93) B dX7_readTaxi_93 (by decide) (fun _ => ?_) (fun _ => ?_)
      · exact zk_vret (pc := 132) B dX7_readTaxi_132 rfl (Nat.le_of_ble_eq_true rfl) (Nat.le_of_ble_eq_true rfl) rfl
      · refine zk_aload_n (pc := 96) B dX7_readTaxi_96 0 rfl rfl ?_
        refine zk_getr (pc := 97) B kx_7 (gTextReader_s hG) 1 (by decide) kf_7_21 rfl (gTextReader_f1 hG) dX7_readTaxi_97 ?_
        refine zk_getr (pc := 100) B kx_0 (gDesk_s (gTextReader_t1 hG)) 6 (by decide) kf_7_111 rfl (gDesk_f6 (gTextReader_t1 hG)) dX7_readTaxi_100 ?_
        refine zk_aload_n (pc := 103) B dX7_readTaxi_103 0 rfl rfl ?_
        refine zk_getr (pc := 104) B kx_7 (gTextReader_s hG) 1 (by decide) kf_7_21 rfl (gTextReader_f1 hG) dX7_readTaxi_104 ?_
        refine zk_geti (pc := 107) B kx_0 (gDesk_s (gTextReader_t1 hG)) 3 (by decide) kf_7_62 rfl dX7_readTaxi_107 ?_
        refine zk_aald (pc := 110) B (gDesk_t6 (gTextReader_t1 hG)) (by decide) (by decide) (fun h12 => gDesk_e6 (gTextReader_t1 hG) _ (z_lt h12)) dX7_readTaxi_110 (fun h12 => zk_lr (fun t11 h12e => ?_))
        have ht11 : g_Taxi G t11 := by rw [h12e]; exact gDesk_k6 (gTextReader_t1 hG) _ (z_lt h12)
        refine zk_iload_n (pc := 111) B dX7_readTaxi_111 1 rfl rfl ?_
        refine zk_iload_n (pc := 112) B dX7_readTaxi_112 2 rfl rfl ?_
        refine zk_iload_n (pc := 113) B dX7_readTaxi_113 3 rfl rfl ?_
        refine zk_iload (pc := 114) B dX7_readTaxi_114 4 rfl ?_
        refine zk_cvm (pc := 116) (k' := 0) (n' := 0) B rfl rfl (Nat.le_of_ble_eq_true rfl) (Nat.le_of_ble_eq_true rfl) (fun b hb => zr_V B hR kV_yX6_startShift km_7_115 kx_6 (gTaxi_s ht11) [.int v1, .int v2, .int v3, .int v4] rfl rfl (Nat.le_of_ble_eq_true rfl) dX7_readTaxi_116 (m_Taxi_startShift hX ht11 v1 v2 v3 v4 M10 b hb) ⟨Nat.le_of_ble_eq_true rfl, Nat.le_of_ble_eq_true rfl⟩ ⟨Nat.le_of_ble_eq_true rfl, Nat.le_of_ble_eq_true rfl⟩) (fun M13 => ?_)
        refine zk_aload_n (pc := 119) B dX7_readTaxi_119 0 rfl rfl ?_
        refine zk_getr (pc := 120) B kx_7 (gTextReader_s hG) 1 (by decide) kf_7_21 rfl (gTextReader_f1 hG) dX7_readTaxi_120 ?_
        refine zk_dup (pc := 123) B dX7_readTaxi_123 rfl ?_
        refine zk_geti (pc := 124) B kx_0 (gDesk_s (gTextReader_t1 hG)) 3 (by decide) kf_7_62 rfl dX7_readTaxi_124 ?_
        refine zk_iconst (v := 1) (pc := 127) B dX7_readTaxi_127 (by decide) ?_
        refine zk_iadd (pc := 128) B dX7_readTaxi_128 ?_
        refine zk_puti (pc := 129) B kx_0 (gDesk_s (gTextReader_t1 hG)) 3 (by decide) kf_7_62 rfl rfl rfl rfl dX7_readTaxi_129 ?_
        refine zk_lm (fun M14 => ?_)
        exact zk_vret (pc := 132) B dX7_readTaxi_132 rfl (Nat.le_of_ble_eq_true rfl) (Nat.le_of_ble_eq_true rfl) rfl
  show z_K X F 5 0 0 G z_cvm b 0 0 0 [(0, .ref (o + 504))] [] M (F_TextReader_readTaxi o M)
  unfold F_TextReader_readTaxi
  refine zk_aload_n (pc := 0) B dX7_readTaxi_0 0 rfl rfl ?_
  refine zk_getr (pc := 1) B kx_7 (gTextReader_s hG) 2 (by decide) kf_7_25 rfl (gTextReader_f2 hG) dX7_readTaxi_1 ?_
  refine zk_iconst (v := 1) (pc := 4) B dX7_readTaxi_4 (by decide) ?_
  refine zk_bipush (v := 6) (pc := 5) B dX7_readTaxi_5 (by decide) ?_
  refine zk_cim (pc := 7) (k' := 0) (n' := 0) B rfl rfl (Nat.le_of_ble_eq_true rfl) (Nat.le_of_ble_eq_true rfl) (fun b hb => zr_V B hR kV_yX8_takeNumber km_7_38 kx_8 (gTokens_s hG) [.int 1, .int 6] rfl rfl (Nat.le_of_ble_eq_true rfl) dX7_readTaxi_7 (m_Tokens_takeNumber hX hG 1 6 M b hb) ⟨Nat.le_of_ble_eq_true rfl, Nat.le_of_ble_eq_true rfl⟩ ⟨Nat.le_of_ble_eq_true rfl, Nat.le_of_ble_eq_true rfl⟩) (fun x2 M1 => ?_)
  refine zk_istore_n (loc' := [(1, .int x2), (0, .ref (o + 504))]) (pc := 10) B dX7_readTaxi_10 rfl (by decide) rfl ?_
  refine zk_aload_n (pc := 11) B dX7_readTaxi_11 1 rfl rfl ?_
  refine zk_getr (pc := 12) B kx_7 (gTextReader_s hG) 2 (by decide) kf_7_25 rfl (gTextReader_f2 hG) dX7_readTaxi_12 ?_
  refine zk_iconst (v := 0) (pc := 15) B dX7_readTaxi_15 (by decide) ?_
  refine zk_aload_n (pc := 16) B dX7_readTaxi_16 1 rfl rfl ?_
  refine zk_getr (pc := 17) B kx_7 (gTextReader_s hG) 0 (by decide) kf_7_12 rfl (gTextReader_f0 hG) dX7_readTaxi_17 ?_
  refine zk_geti (pc := 20) B kx_9 (gTown_s (gTextReader_t0 hG)) 0 (by decide) kf_7_84 rfl dX7_readTaxi_20 ?_
  refine zk_iconst (v := 1) (pc := 23) B dX7_readTaxi_23 (by decide) ?_
  refine zk_isub (pc := 24) B dX7_readTaxi_24 ?_
  refine zk_cim (pc := 25) (k' := 0) (n' := 0) B rfl rfl (Nat.le_of_ble_eq_true rfl) (Nat.le_of_ble_eq_true rfl) (fun b hb => zr_V B hR kV_yX8_takeNumber km_7_38 kx_8 (gTokens_s hG) [.int 0, .int ((M1.1 (o + 505) 0) - 1)] rfl rfl (Nat.le_of_ble_eq_true rfl) dX7_readTaxi_25 (m_Tokens_takeNumber hX hG 0 ((M1.1 (o + 505) 0) - 1) M1 b hb) ⟨Nat.le_of_ble_eq_true rfl, Nat.le_of_ble_eq_true rfl⟩ ⟨Nat.le_of_ble_eq_true rfl, Nat.le_of_ble_eq_true rfl⟩) (fun x4 M3 => ?_)
  refine zk_istore_n (loc' := [(2, .int x4), (1, .int x2), (0, .ref (o + 504))]) (pc := 28) B dX7_readTaxi_28 rfl (by decide) rfl ?_
  refine zk_aload_n (pc := 29) B dX7_readTaxi_29 2 rfl rfl ?_
  refine zk_getr (pc := 30) B kx_7 (gTextReader_s hG) 2 (by decide) kf_7_25 rfl (gTextReader_f2 hG) dX7_readTaxi_30 ?_
  refine zk_iconst (v := 0) (pc := 33) B dX7_readTaxi_33 (by decide) ?_
  refine zk_sipush (v := 2879) (pc := 34) B dX7_readTaxi_34 (by decide) ?_
  refine zk_cim (pc := 37) (k' := 0) (n' := 0) B rfl rfl (Nat.le_of_ble_eq_true rfl) (Nat.le_of_ble_eq_true rfl) (fun b hb => zr_V B hR kV_yX8_takeNumber km_7_38 kx_8 (gTokens_s hG) [.int 0, .int 2879] rfl rfl (Nat.le_of_ble_eq_true rfl) dX7_readTaxi_37 (m_Tokens_takeNumber hX hG 0 2879 M3 b hb) ⟨Nat.le_of_ble_eq_true rfl, Nat.le_of_ble_eq_true rfl⟩ ⟨Nat.le_of_ble_eq_true rfl, Nat.le_of_ble_eq_true rfl⟩) (fun x6 M5 => ?_)
  refine zk_istore_n (loc' := [(3, .int x6), (2, .int x4), (1, .int x2), (0, .ref (o + 504))]) (pc := 40) B dX7_readTaxi_40 rfl (by decide) rfl ?_
  refine zk_aload_n (pc := 41) B dX7_readTaxi_41 3 rfl rfl ?_
  refine zk_getr (pc := 42) B kx_7 (gTextReader_s hG) 2 (by decide) kf_7_25 rfl (gTextReader_f2 hG) dX7_readTaxi_42 ?_
  refine zk_iconst (v := 0) (pc := 45) B dX7_readTaxi_45 (by decide) ?_
  refine zk_sipush (v := 2879) (pc := 46) B dX7_readTaxi_46 (by decide) ?_
  refine zk_cim (pc := 49) (k' := 0) (n' := 0) B rfl rfl (Nat.le_of_ble_eq_true rfl) (Nat.le_of_ble_eq_true rfl) (fun b hb => zr_V B hR kV_yX8_checkNumber km_7_87 kx_8 (gTokens_s hG) [.int 0, .int 2879] rfl rfl (Nat.le_of_ble_eq_true rfl) dX7_readTaxi_49 (m_Tokens_checkNumber hX hG 0 2879 M5 b hb) ⟨Nat.le_of_ble_eq_true rfl, Nat.le_of_ble_eq_true rfl⟩ ⟨Nat.le_of_ble_eq_true rfl, Nat.le_of_ble_eq_true rfl⟩) (fun x8 M7 => ?_)
  refine zk_istore (loc' := [(4, .int x8), (3, .int x6), (2, .int x4), (1, .int x2), (0, .ref (o + 504))]) (pc := 52) B dX7_readTaxi_52 (by decide) rfl ?_
  refine zk_iload (pc := 54) B dX7_readTaxi_54 0 rfl ?_
  refine zk_iload_n (pc := 56) B dX7_readTaxi_56 1 rfl rfl ?_
  refine zk_icmp_gt (tgt := 68) (pc := 57) B dX7_readTaxi_57 (by decide) (fun _ => ?_) (fun _ => ?_)
  · refine zk_sub [4, 3, 2, 1, 0] rfl ?_
    exact J68 x2 x4 x6 x8 M7
  · refine zk_aload_n (pc := 60) B dX7_readTaxi_60 4 rfl rfl ?_
    refine zk_getr (pc := 61) B kx_7 (gTextReader_s hG) 2 (by decide) kf_7_25 rfl (gTextReader_f2 hG) dX7_readTaxi_61 ?_
    refine zk_iconst (v := 4) (pc := 64) B dX7_readTaxi_64 (by decide) ?_
    refine zk_cvm (pc := 65) (k' := 0) (n' := 0) B rfl rfl (Nat.le_of_ble_eq_true rfl) (Nat.le_of_ble_eq_true rfl) (fun b hb => zr_V B hR kV_yX8_fail km_7_66 kx_8 (gTokens_s hG) [.int 4] rfl rfl (Nat.le_of_ble_eq_true rfl) dX7_readTaxi_65 (m_Tokens_fail hX hG 4 M7 b hb) ⟨Nat.le_of_ble_eq_true rfl, Nat.le_of_ble_eq_true rfl⟩ ⟨Nat.le_of_ble_eq_true rfl, Nat.le_of_ble_eq_true rfl⟩) (fun M9 => ?_)
    refine zk_sub [4, 3, 2, 1, 0] rfl ?_
    exact J68 x2 x4 x6 x8 M9
set_option maxHeartbeats 4000000 in
set_option maxRecDepth 100000 in
theorem m_TextReader_readClause {X : z_X} (hX : z_ok X) {G : z_Gr} {o : Nat} (hG : g_Sys G o) (M : z_Mem) (b : z_Mem) (h : F_TextReader_readClause o M = some b) : z_Ct X yX7_readClause cX7_readClause 1 none ({ frames := 4, cells := 0, slots := 0, locals := 90 } : Room) [.ref (o + 504)] G M (fun o9 G9 M9 => G9 = G ∧ (o9, M9) = z_cvm b) := by
  refine z_enter hX (by decide) (Nat.le_of_ble_eq_true rfl) h (fun F B hR => ?_)
  have J167 : ∀  (M : z_Mem), z_K X F 1 0 0 G z_cvm b 0 0 167 [(0, .ref (o + 504))] [] M (F_TextReader_readClause_J167 o M) := by
    intro  M
    unfold F_TextReader_readClause_J167
    refine zk_aload_n (pc := 167) B dX7_readClause_167 0 rfl rfl ?_
    refine zk_getr (pc := 168) B kx_7 (gTextReader_s hG) 2 (by decide) kf_7_25 rfl (gTextReader_f2 hG) dX7_readClause_168 ?_
    refine zk_bipush (v := 59) (pc := 171) B dX7_readClause_171 (by decide) ?_
    refine zk_cvm (pc := 173) (k' := 0) (n' := 0) B rfl rfl (Nat.le_of_ble_eq_true rfl) (Nat.le_of_ble_eq_true rfl) (fun b hb => zr_V B hR kV_yX8_takeSign km_7_44 kx_8 (gTokens_s hG) [.int 59] rfl rfl (Nat.le_of_ble_eq_true rfl) dX7_readClause_173 (m_Tokens_takeSign hX hG 59 M b hb) ⟨Nat.le_of_ble_eq_true rfl, Nat.le_of_ble_eq_true rfl⟩ ⟨Nat.le_of_ble_eq_true rfl, Nat.le_of_ble_eq_true rfl⟩) (fun M19 => ?_)
    exact zk_vret (pc := 176) B dX7_readClause_176 rfl (Nat.le_of_ble_eq_true rfl) (Nat.le_of_ble_eq_true rfl) rfl
  have J30 : ∀  (M : z_Mem), z_K X F 1 0 0 G z_cvm b 0 0 30 [(0, .ref (o + 504))] [] M (F_TextReader_readClause_J30 o M) := by
    intro  M
    unfold F_TextReader_readClause_J30
    refine zk_aload_n (pc := 30) B dX7_readClause_30 0 rfl rfl ?_
    refine zk_getr (pc := 31) B kx_7 (gTextReader_s hG) 2 (by decide) kf_7_25 rfl (gTextReader_f2 hG) dX7_readClause_31 ?_
    refine zk_iconst (v := 1) (pc := 34) B dX7_readClause_34 (by decide) ?_
    refine zk_iconst (v := 5) (pc := 35) B dX7_readClause_35 (by decide) ?_
    refine zk_cim (pc := 36) (k' := 0) (n' := 0) B rfl rfl (Nat.le_of_ble_eq_true rfl) (Nat.le_of_ble_eq_true rfl) (fun b hb => zr_V B hR kV_yX8_takeWord km_7_34 kx_8 (gTokens_s hG) [.int 1, .int 5] rfl rfl (Nat.le_of_ble_eq_true rfl) dX7_readClause_36 (m_Tokens_takeWord hX hG 1 5 M b hb) ⟨Nat.le_of_ble_eq_true rfl, Nat.le_of_ble_eq_true rfl⟩ ⟨Nat.le_of_ble_eq_true rfl, Nat.le_of_ble_eq_true rfl⟩) (fun x4 M3 => ?_)
    refine zk_if (fun hs => zk_tin (v := 1) (tgt := 72) (pc := 39) B dX7_readClause_39 hs (by decide) (by decide) rfl (by decide) ?_) (fun hn39_0 => ?_)
    · refine zk_aload_n (pc := 72) B dX7_readClause_72 0 rfl rfl ?_
      refine zk_cvm (pc := 73) (k' := 0) (n' := 0) B rfl rfl (Nat.le_of_ble_eq_true rfl) (Nat.le_of_ble_eq_true rfl) (fun b hb => zr_V B hR kV_yX7_readRoad km_7_69 kx_7 (gTextReader_s hG) [] rfl rfl (Nat.le_of_ble_eq_true rfl) dX7_readClause_73 (m_TextReader_readRoad hX hG M3 b hb) ⟨Nat.le_of_ble_eq_true rfl, Nat.le_of_ble_eq_true rfl⟩ ⟨Nat.le_of_ble_eq_true rfl, Nat.le_of_ble_eq_true rfl⟩) (fun M18 => ?_)
      refine zk_goto (tgt := 167) (pc := 76) B dX7_readClause_76 (by decide) ?_
      exact J167 M18
    · refine zk_if (fun hs => zk_tin (v := 2) (tgt := 79) (pc := 39) B dX7_readClause_39 hs (by decide) (by decide) rfl (by decide) ?_) (fun hn39_1 => ?_)
      · refine zk_aload_n (pc := 79) B dX7_readClause_79 0 rfl rfl ?_
        refine zk_getr (pc := 80) B kx_7 (gTextReader_s hG) 1 (by decide) kf_7_21 rfl (gTextReader_f1 hG) dX7_readClause_80 ?_
        refine zk_aload_n (pc := 83) B dX7_readClause_83 0 rfl rfl ?_
        refine zk_getr (pc := 84) B kx_7 (gTextReader_s hG) 2 (by decide) kf_7_25 rfl (gTextReader_f2 hG) dX7_readClause_84 ?_
        refine zk_iconst (v := 0) (pc := 87) B dX7_readClause_87 (by decide) ?_
        refine zk_sipush (v := 9999) (pc := 88) B dX7_readClause_88 (by decide) ?_
        refine zk_cim (pc := 91) (k' := 0) (n' := 0) B rfl rfl (Nat.le_of_ble_eq_true rfl) (Nat.le_of_ble_eq_true rfl) (fun b hb => zr_V B hR kV_yX8_takeNumber km_7_38 kx_8 (gTokens_s hG) [.int 0, .int 9999] rfl rfl (Nat.le_of_ble_eq_true rfl) dX7_readClause_91 (m_Tokens_takeNumber hX hG 0 9999 M3 b hb) ⟨Nat.le_of_ble_eq_true rfl, Nat.le_of_ble_eq_true rfl⟩ ⟨Nat.le_of_ble_eq_true rfl, Nat.le_of_ble_eq_true rfl⟩) (fun x13 M12 => ?_)
        refine zk_puti (pc := 94) B kx_0 (gDesk_s (gTextReader_t1 hG)) 1 (by decide) kf_7_72 rfl rfl rfl rfl dX7_readClause_94 ?_
        refine zk_lm (fun M14 => ?_)
        refine zk_aload_n (pc := 97) B dX7_readClause_97 0 rfl rfl ?_
        refine zk_getr (pc := 98) B kx_7 (gTextReader_s hG) 1 (by decide) kf_7_21 rfl (gTextReader_f1 hG) dX7_readClause_98 ?_
        refine zk_aload_n (pc := 101) B dX7_readClause_101 0 rfl rfl ?_
        refine zk_getr (pc := 102) B kx_7 (gTextReader_s hG) 2 (by decide) kf_7_25 rfl (gTextReader_f2 hG) dX7_readClause_102 ?_
        refine zk_iconst (v := 0) (pc := 105) B dX7_readClause_105 (by decide) ?_
        refine zk_sipush (v := 999) (pc := 106) B dX7_readClause_106 (by decide) ?_
        refine zk_cim (pc := 109) (k' := 0) (n' := 0) B rfl rfl (Nat.le_of_ble_eq_true rfl) (Nat.le_of_ble_eq_true rfl) (fun b hb => zr_V B hR kV_yX8_takeNumber km_7_38 kx_8 (gTokens_s hG) [.int 0, .int 999] rfl rfl (Nat.le_of_ble_eq_true rfl) dX7_readClause_109 (m_Tokens_takeNumber hX hG 0 999 M14 b hb) ⟨Nat.le_of_ble_eq_true rfl, Nat.le_of_ble_eq_true rfl⟩ ⟨Nat.le_of_ble_eq_true rfl, Nat.le_of_ble_eq_true rfl⟩) (fun x16 M15 => ?_)
        refine zk_puti (pc := 112) B kx_0 (gDesk_s (gTextReader_t1 hG)) 2 (by decide) kf_7_75 rfl rfl rfl rfl dX7_readClause_112 ?_
        refine zk_lm (fun M17 => ?_)
        refine zk_goto (tgt := 167) (pc := 115) B dX7_readClause_115 (by decide) ?_
        exact J167 M17
      · refine zk_if (fun hs => zk_tin (v := 3) (tgt := 118) (pc := 39) B dX7_readClause_39 hs (by decide) (by decide) rfl (by decide) ?_) (fun hn39_2 => ?_)
        · refine zk_aload_n (pc := 118) B dX7_readClause_118 0 rfl rfl ?_
          refine zk_bipush (v := 7) (pc := 119) B dX7_readClause_119 (by decide) ?_
          refine zk_aload_n (pc := 121) B dX7_readClause_121 0 rfl rfl ?_
          refine zk_getr (pc := 122) B kx_7 (gTextReader_s hG) 2 (by decide) kf_7_25 rfl (gTextReader_f2 hG) dX7_readClause_122 ?_
          refine zk_iconst (v := 2) (pc := 125) B dX7_readClause_125 (by decide) ?_
          refine zk_iconst (v := 4) (pc := 126) B dX7_readClause_126 (by decide) ?_
          refine zk_cim (pc := 127) (k' := 0) (n' := 0) B rfl rfl (Nat.le_of_ble_eq_true rfl) (Nat.le_of_ble_eq_true rfl) (fun b hb => zr_V B hR kV_yX8_takeNumber km_7_38 kx_8 (gTokens_s hG) [.int 2, .int 4] rfl rfl (Nat.le_of_ble_eq_true rfl) dX7_readClause_127 (m_Tokens_takeNumber hX hG 2 4 M3 b hb) ⟨Nat.le_of_ble_eq_true rfl, Nat.le_of_ble_eq_true rfl⟩ ⟨Nat.le_of_ble_eq_true rfl, Nat.le_of_ble_eq_true rfl⟩) (fun x10 M9 => ?_)
          refine zk_iadd (pc := 130) B dX7_readClause_130 ?_
          refine zk_iconst (v := 2) (pc := 131) B dX7_readClause_131 (by decide) ?_
          refine zk_isub (pc := 132) B dX7_readClause_132 ?_
          refine zk_cvm (pc := 133) (k' := 0) (n' := 0) B rfl rfl (Nat.le_of_ble_eq_true rfl) (Nat.le_of_ble_eq_true rfl) (fun b hb => zr_V B hR kV_yX7_readRuleValue km_7_78 kx_7 (gTextReader_s hG) [.int ((7 + x10) - 2)] rfl rfl (Nat.le_of_ble_eq_true rfl) dX7_readClause_133 (m_TextReader_readRuleValue hX hG ((7 + x10) - 2) M9 b hb) ⟨Nat.le_of_ble_eq_true rfl, Nat.le_of_ble_eq_true rfl⟩ ⟨Nat.le_of_ble_eq_true rfl, Nat.le_of_ble_eq_true rfl⟩) (fun M11 => ?_)
          refine zk_goto (tgt := 167) (pc := 136) B dX7_readClause_136 (by decide) ?_
          exact J167 M11
        · refine zk_if (fun hs => zk_tin (v := 4) (tgt := 139) (pc := 39) B dX7_readClause_39 hs (by decide) (by decide) rfl (by decide) ?_) (fun hn39_3 => ?_)
          · refine zk_aload_n (pc := 139) B dX7_readClause_139 0 rfl rfl ?_
            refine zk_aload_n (pc := 140) B dX7_readClause_140 0 rfl rfl ?_
            refine zk_getr (pc := 141) B kx_7 (gTextReader_s hG) 2 (by decide) kf_7_25 rfl (gTextReader_f2 hG) dX7_readClause_141 ?_
            refine zk_bipush (v := 14) (pc := 144) B dX7_readClause_144 (by decide) ?_
            refine zk_bipush (v := 20) (pc := 146) B dX7_readClause_146 (by decide) ?_
            refine zk_cim (pc := 148) (k' := 0) (n' := 0) B rfl rfl (Nat.le_of_ble_eq_true rfl) (Nat.le_of_ble_eq_true rfl) (fun b hb => zr_V B hR kV_yX8_takeWord km_7_34 kx_8 (gTokens_s hG) [.int 14, .int 20] rfl rfl (Nat.le_of_ble_eq_true rfl) dX7_readClause_148 (m_Tokens_takeWord hX hG 14 20 M3 b hb) ⟨Nat.le_of_ble_eq_true rfl, Nat.le_of_ble_eq_true rfl⟩ ⟨Nat.le_of_ble_eq_true rfl, Nat.le_of_ble_eq_true rfl⟩) (fun x7 M6 => ?_)
            refine zk_bipush (v := 14) (pc := 151) B dX7_readClause_151 (by decide) ?_
            refine zk_isub (pc := 153) B dX7_readClause_153 ?_
            refine zk_cvm (pc := 154) (k' := 0) (n' := 0) B rfl rfl (Nat.le_of_ble_eq_true rfl) (Nat.le_of_ble_eq_true rfl) (fun b hb => zr_V B hR kV_yX7_readRuleValue km_7_78 kx_7 (gTextReader_s hG) [.int (x7 - 14)] rfl rfl (Nat.le_of_ble_eq_true rfl) dX7_readClause_154 (m_TextReader_readRuleValue hX hG (x7 - 14) M6 b hb) ⟨Nat.le_of_ble_eq_true rfl, Nat.le_of_ble_eq_true rfl⟩ ⟨Nat.le_of_ble_eq_true rfl, Nat.le_of_ble_eq_true rfl⟩) (fun M8 => ?_)
            refine zk_goto (tgt := 167) (pc := 157) B dX7_readClause_157 (by decide) ?_
            exact J167 M8
          · refine zk_if (fun hs => zk_tin (v := 5) (tgt := 160) (pc := 39) B dX7_readClause_39 hs (by decide) (by decide) rfl (by decide) ?_) (fun hn39_4 => ?_)
            · refine zk_aload_n (pc := 160) B dX7_readClause_160 0 rfl rfl ?_
              refine zk_cvm (pc := 161) (k' := 0) (n' := 0) B rfl rfl (Nat.le_of_ble_eq_true rfl) (Nat.le_of_ble_eq_true rfl) (fun b hb => zr_V B hR kV_yX7_readTaxi km_7_81 kx_7 (gTextReader_s hG) [] rfl rfl (Nat.le_of_ble_eq_true rfl) dX7_readClause_161 (m_TextReader_readTaxi hX hG M3 b hb) ⟨Nat.le_of_ble_eq_true rfl, Nat.le_of_ble_eq_true rfl⟩ ⟨Nat.le_of_ble_eq_true rfl, Nat.le_of_ble_eq_true rfl⟩) (fun M5 => ?_)
              refine zk_goto (tgt := 167) (pc := 164) B dX7_readClause_164 (by decide) ?_
              exact J167 M5
            · refine zk_tout (pc := 39)  (tgt := 167) B dX7_readClause_39 (by have q0 := z_ne hn39_0 (z := 1) (by decide); have q1 := z_ne hn39_1 (z := 2) (by decide); have q2 := z_ne hn39_2 (z := 3) (by decide); have q3 := z_ne hn39_3 (z := 4) (by decide); have q4 := z_ne hn39_4 (z := 5) (by decide); omega) (by decide) ?_
              exact J167 M3
  show z_K X F 1 0 0 G z_cvm b 0 0 0 [(0, .ref (o + 504))] [] M (F_TextReader_readClause o M)
  unfold F_TextReader_readClause
  refine zk_aload_n (pc := 0) B dX7_readClause_0 0 rfl rfl ?_
  refine zk_getr (pc := 1) B kx_7 (gTextReader_s hG) 2 (by decide) kf_7_25 rfl (gTextReader_f2 hG) dX7_readClause_1 ?_
  refine zk_iconst (v := 5) (pc := 4) B dX7_readClause_4 (by decide) ?_
  refine zk_cpi (pc := 5) (k' := 0) (n' := 0) B rfl rfl (Nat.le_of_ble_eq_true rfl) (Nat.le_of_ble_eq_true rfl) (fun b hb => zr_V B hR kV_yX8_isWord km_7_58 kx_8 (gTokens_s hG) [.int 5] rfl rfl (Nat.le_of_ble_eq_true rfl) dX7_readClause_5 (m_Tokens_isWord hX hG 5 M b hb) ⟨Nat.le_of_ble_eq_true rfl, Nat.le_of_ble_eq_true rfl⟩ ⟨Nat.le_of_ble_eq_true rfl, Nat.le_of_ble_eq_true rfl⟩) (fun x1 _ => ?_)
  refine zk_if_eq (tgt := 30) (pc := 8) B dX7_readClause_8 (by decide) (fun _ => ?_) (fun _ => ?_)
  · exact J30 M
  · refine zk_aload_n (pc := 11) B dX7_readClause_11 0 rfl rfl ?_
    refine zk_getr (pc := 12) B kx_7 (gTextReader_s hG) 1 (by decide) kf_7_21 rfl (gTextReader_f1 hG) dX7_readClause_12 ?_
    refine zk_geti (pc := 15) B kx_0 (gDesk_s (gTextReader_t1 hG)) 3 (by decide) kf_7_62 rfl dX7_readClause_15 ?_
    refine zk_iconst (v := 4) (pc := 18) B dX7_readClause_18 (by decide) ?_
    refine zk_icmp_lt (tgt := 30) (pc := 19) B dX7_readClause_19 (by decide) (fun _ => ?_) (fun _ => ?_)
    · exact J30 M
    · refine zk_aload_n (pc := 22) B dX7_readClause_22 0 rfl rfl ?_
      refine zk_getr (pc := 23) B kx_7 (gTextReader_s hG) 2 (by decide) kf_7_25 rfl (gTextReader_f2 hG) dX7_readClause_23 ?_
      refine zk_iconst (v := 3) (pc := 26) B dX7_readClause_26 (by decide) ?_
      refine zk_cvm (pc := 27) (k' := 0) (n' := 0) B rfl rfl (Nat.le_of_ble_eq_true rfl) (Nat.le_of_ble_eq_true rfl) (fun b hb => zr_V B hR kV_yX8_fail km_7_66 kx_8 (gTokens_s hG) [.int 3] rfl rfl (Nat.le_of_ble_eq_true rfl) dX7_readClause_27 (m_Tokens_fail hX hG 3 M b hb) ⟨Nat.le_of_ble_eq_true rfl, Nat.le_of_ble_eq_true rfl⟩ ⟨Nat.le_of_ble_eq_true rfl, Nat.le_of_ble_eq_true rfl⟩) (fun M2 => ?_)
      exact J30 M2
set_option maxHeartbeats 4000000 in
set_option maxRecDepth 100000 in
theorem m_Town_shorten {X : z_X} (hX : z_ok X) {G : z_Gr} {a : Nat} (ha : g_Town G a) (p0 : Int32) (p1 : Int32) (p2 : Int32) (M : z_Mem) (b : z_Mem) (h : F_Town_shorten a p0 p1 p2 M = some b) : z_Ct X yX9_shorten cX9_shorten 7 none ({ frames := 2, cells := 0, slots := 0, locals := 43 } : Room) [.ref a, .int p0, .int p1, .int p2] G M (fun o9 G9 M9 => G9 = G ∧ (o9, M9) = z_cvm b) := by
  refine z_enter hX (by decide) (Nat.le_of_ble_eq_true rfl) h (fun F B hR => ?_)
  have J61 : ∀ (v1 : Int32) (v2 : Int32) (v4 : Int32) (v5 : Int32) (M : z_Mem), z_K X F 7 0 0 G z_cvm b 0 0 61 [(0, .ref a), (1, .int v1), (2, .int v2), (4, .int v4), (5, .int v5)] [] M (F_Town_shorten_J61 a v1 v2 v4 v5 M) := by
    intro v1 v2 v4 v5 M
    unfold F_Town_shorten_J61
    refine zk_aload_n (pc := 61) B dX9_shorten_61 0 rfl rfl ?_
    refine zk_getr (pc := 62) B kx_9 (gTown_s ha) 2 (by decide) kf_9_9 rfl (gTown_f2 ha) dX9_shorten_62 ?_
    refine zk_iload_n (pc := 65) B dX9_shorten_65 1 rfl rfl ?_
    refine zk_bipush (v := 8) (pc := 66) B dX9_shorten_66 (by decide) ?_
    refine zk_imul (pc := 68) B dX9_shorten_68 ?_
    refine zk_iload_n (pc := 69) B dX9_shorten_69 2 rfl rfl ?_
    refine zk_iadd (pc := 70) B dX9_shorten_70 ?_
    refine zk_iload (pc := 71) B dX9_shorten_71 3 rfl ?_
    refine zk_iload (pc := 73) B dX9_shorten_73 4 rfl ?_
    refine zk_iadd (pc := 75) B dX9_shorten_75 ?_
    refine zk_iast (pc := 76) B (gTown_t2 ha) dX9_shorten_76 ?_
    refine zk_lm (fun M5 => ?_)
    exact zk_vret (pc := 77) B dX9_shorten_77 rfl (Nat.le_of_ble_eq_true rfl) (Nat.le_of_ble_eq_true rfl) rfl
  show z_K X F 7 0 0 G z_cvm b 0 0 0 [(0, .ref a), (1, .int p0), (2, .int p1), (3, .int p2)] [] M (F_Town_shorten a p0 p1 p2 M)
  unfold F_Town_shorten
  refine zk_aload_n (pc := 0) B dX9_shorten_0 0 rfl rfl ?_
  refine zk_iload_n (pc := 1) B dX9_shorten_1 1 rfl rfl ?_
  refine zk_iload_n (pc := 2) B dX9_shorten_2 3 rfl rfl ?_
  refine zk_cpi (pc := 3) (k' := 0) (n' := 0) B rfl rfl (Nat.le_of_ble_eq_true rfl) (Nat.le_of_ble_eq_true rfl) (fun b hb => zr_V B hR kV_yX9_wayMinutes km_9_30 kx_9 (gTown_s ha) [.int p0, .int p2] rfl rfl (Nat.le_of_ble_eq_true rfl) dX9_shorten_3 (m_Town_wayMinutes hX ha p0 p2 M b hb) ⟨Nat.le_of_ble_eq_true rfl, Nat.le_of_ble_eq_true rfl⟩ ⟨Nat.le_of_ble_eq_true rfl, Nat.le_of_ble_eq_true rfl⟩) (fun x1 _ => ?_)
  refine zk_istore (loc' := [(4, .int x1), (0, .ref a), (1, .int p0), (2, .int p1), (3, .int p2)]) (pc := 6) B dX9_shorten_6 (by decide) rfl ?_
  refine zk_aload_n (pc := 8) B dX9_shorten_8 1 rfl rfl ?_
  refine zk_iload_n (pc := 9) B dX9_shorten_9 4 rfl rfl ?_
  refine zk_iload_n (pc := 10) B dX9_shorten_10 3 rfl rfl ?_
  refine zk_cpi (pc := 11) (k' := 0) (n' := 0) B rfl rfl (Nat.le_of_ble_eq_true rfl) (Nat.le_of_ble_eq_true rfl) (fun b hb => zr_V B hR kV_yX9_wayMinutes km_9_30 kx_9 (gTown_s ha) [.int p2, .int p1] rfl rfl (Nat.le_of_ble_eq_true rfl) dX9_shorten_11 (m_Town_wayMinutes hX ha p2 p1 M b hb) ⟨Nat.le_of_ble_eq_true rfl, Nat.le_of_ble_eq_true rfl⟩ ⟨Nat.le_of_ble_eq_true rfl, Nat.le_of_ble_eq_true rfl⟩) (fun x2 _ => ?_)
  refine zk_istore (loc' := [(5, .int x2), (4, .int x1), (0, .ref a), (1, .int p0), (2, .int p1), (3, .int p2)]) (pc := 14) B dX9_shorten_14 (by decide) rfl ?_
  refine zk_iload (pc := 16) B dX9_shorten_16 1 rfl ?_
  refine zk_iconst (v := (-1)) (pc := 18) B dX9_shorten_18 (by decide) ?_
  refine zk_icmp_eq (tgt := 36) (pc := 19) B dX9_shorten_19 (by decide) (fun _ => ?_) (fun _ => ?_)
  · exact zk_vret (pc := 36) B dX9_shorten_36 rfl (Nat.le_of_ble_eq_true rfl) (Nat.le_of_ble_eq_true rfl) rfl
  · refine zk_iload (pc := 22) B dX9_shorten_22 0 rfl ?_
    refine zk_iconst (v := (-1)) (pc := 24) B dX9_shorten_24 (by decide) ?_
    refine zk_icmp_eq (tgt := 36) (pc := 25) B dX9_shorten_25 (by decide) (fun _ => ?_) (fun _ => ?_)
    · exact zk_vret (pc := 36) B dX9_shorten_36 rfl (Nat.le_of_ble_eq_true rfl) (Nat.le_of_ble_eq_true rfl) rfl
    · refine zk_iload_n (pc := 28) B dX9_shorten_28 3 rfl rfl ?_
      refine zk_iload_n (pc := 29) B dX9_shorten_29 4 rfl rfl ?_
      refine zk_cpi (pc := 30) (k' := 0) (n' := 0) B rfl rfl (Nat.le_of_ble_eq_true rfl) (Nat.le_of_ble_eq_true rfl) (fun b hb => zr_S B hR kS_yX9_hasPlaces km_9_22 [.int p0, .int p1] rfl rfl (Nat.le_of_ble_eq_true rfl) dX9_shorten_30 (m_Town_hasPlaces hX p0 p1 M b hb) ⟨Nat.le_of_ble_eq_true rfl, Nat.le_of_ble_eq_true rfl⟩ ⟨Nat.le_of_ble_eq_true rfl, Nat.le_of_ble_eq_true rfl⟩) (fun x3 _ => ?_)
      refine zk_if_ne (tgt := 37) (pc := 33) B dX9_shorten_33 (by decide) (fun _ => ?_) (fun _ => ?_)
      · refine zk_aload_n (pc := 37) B dX9_shorten_37 2 rfl rfl ?_
        refine zk_iload_n (pc := 38) B dX9_shorten_38 3 rfl rfl ?_
        refine zk_iload_n (pc := 39) B dX9_shorten_39 4 rfl rfl ?_
        refine zk_cpi (pc := 40) (k' := 0) (n' := 0) B rfl rfl (Nat.le_of_ble_eq_true rfl) (Nat.le_of_ble_eq_true rfl) (fun b hb => zr_V B hR kV_yX9_wayMinutes km_9_30 kx_9 (gTown_s ha) [.int p0, .int p1] rfl rfl (Nat.le_of_ble_eq_true rfl) dX9_shorten_40 (m_Town_wayMinutes hX ha p0 p1 M b hb) ⟨Nat.le_of_ble_eq_true rfl, Nat.le_of_ble_eq_true rfl⟩ ⟨Nat.le_of_ble_eq_true rfl, Nat.le_of_ble_eq_true rfl⟩) (fun x4 _ => ?_)
        refine zk_istore (loc' := [(6, .int x4), (5, .int x2), (4, .int x1), (0, .ref a), (1, .int p0), (2, .int p1), (3, .int p2)]) (pc := 43) B dX9_shorten_43 (by decide) rfl ?_
        refine zk_iload (pc := 45) B dX9_shorten_45 0 rfl ?_
        refine zk_iconst (v := (-1)) (pc := 47) B dX9_shorten_47 (by decide) ?_
        refine zk_icmp_eq (tgt := 61) (pc := 48) B dX9_shorten_48 (by decide) (fun _ => ?_) (fun _ => ?_)
        · refine zk_sub [3, 4, 5, 2, 1] rfl ?_
          exact J61 p0 p1 x1 x2 M
        · refine zk_iload (pc := 51) B dX9_shorten_51 2 rfl ?_
          refine zk_iload (pc := 53) B dX9_shorten_53 1 rfl ?_
          refine zk_iadd (pc := 55) B dX9_shorten_55 ?_
          refine zk_iload (pc := 56) B dX9_shorten_56 0 rfl ?_
          refine zk_icmp_ge (tgt := 77) (pc := 58) B dX9_shorten_58 (by decide) (fun _ => ?_) (fun _ => ?_)
          · exact zk_vret (pc := 77) B dX9_shorten_77 rfl (Nat.le_of_ble_eq_true rfl) (Nat.le_of_ble_eq_true rfl) rfl
          · refine zk_sub [3, 4, 5, 2, 1] rfl ?_
            exact J61 p0 p1 x1 x2 M
      · exact zk_vret (pc := 36) B dX9_shorten_36 rfl (Nat.le_of_ble_eq_true rfl) (Nat.le_of_ble_eq_true rfl) rfl
set_option maxHeartbeats 4000000 in
set_option maxRecDepth 100000 in
theorem m_Town_findWays {X : z_X} (hX : z_ok X) {G : z_Gr} {a : Nat} (ha : g_Town G a) (M : z_Mem) (b : z_Mem) (h : F_Town_findWays a M = some b) : z_Ct X yX9_findWays cX9_findWays 4 none ({ frames := 3, cells := 0, slots := 0, locals := 69 } : Room) [.ref a] G M (fun o9 G9 M9 => G9 = G ∧ (o9, M9) = z_cvm b) := by
  refine z_enter hX (by decide) (Nat.le_of_ble_eq_true rfl) h (fun F B hR => ?_)
  have L2 : ∀ (nf2 : Nat), ∀ (v1 : Int32) (M : z_Mem), z_K X F 4 0 0 G z_cvm b 0 0 2 [(0, .ref a), (1, .int v1)] [] M (F_Town_findWays_L2 a nf2 v1 M) := by
    intro nf2
    induction nf2 with
    | zero => intro v1 M; exact zk_none
    | succ nf2 ih2 =>
      have L10 : ∀ (nf10 : Nat), ∀ (v1 : Int32) (v2 : Int32) (M : z_Mem), z_K X F 4 0 0 G z_cvm b 0 0 10 [(0, .ref a), (1, .int v1), (2, .int v2)] [] M (F_Town_findWays_L10 a (F_Town_findWays_L2 a nf2) nf10 v1 v2 M) := by
        intro nf10
        induction nf10 with
        | zero => intro v1 v2 M; exact zk_none
        | succ nf10 ih10 =>
          have L18 : ∀ (nf18 : Nat), ∀ (v1 : Int32) (v2 : Int32) (v3 : Int32) (M : z_Mem), z_K X F 4 0 0 G z_cvm b 0 0 18 [(0, .ref a), (1, .int v1), (2, .int v2), (3, .int v3)] [] M (F_Town_findWays_L18 a (F_Town_findWays_L2 a nf2) (F_Town_findWays_L10 a (F_Town_findWays_L2 a nf2) nf10) nf18 v1 v2 v3 M) := by
            intro nf18
            induction nf18 with
            | zero => intro v1 v2 v3 M; exact zk_none
            | succ nf18 ih18 =>
              intro v1 v2 v3 M
              show z_K X F 4 0 0 G z_cvm b 0 0 18 [(0, .ref a), (1, .int v1), (2, .int v2), (3, .int v3)] [] M (F_Town_findWays_B18 a (F_Town_findWays_L2 a nf2) (F_Town_findWays_L10 a (F_Town_findWays_L2 a nf2) nf10) (F_Town_findWays_L18 a (F_Town_findWays_L2 a nf2) (F_Town_findWays_L10 a (F_Town_findWays_L2 a nf2) nf10) nf18) v1 v2 v3 M)
              unfold F_Town_findWays_B18
              refine zk_iload_n (pc := 18) B dX9_findWays_18 3 rfl rfl ?_
              refine zk_bipush (v := 8) (pc := 19) B dX9_findWays_19 (by decide) ?_
              refine zk_icmp_ge (tgt := 37) (pc := 21) B dX9_findWays_21 (by decide) (fun _ => ?_) (fun _ => ?_)
              · refine zk_iinc (y := 1) (lf := fun x2 => [(2, .int x2), (0, .ref a), (1, .int v1), (3, .int v3)]) (pc := 37) B dX9_findWays_37 2 rfl (by decide) (by decide) (fun _ => rfl) (fun x2 => ?_)
                refine zk_goto (tgt := 10) (pc := 40) B dX9_findWays_40 (by decide) ?_
                refine zk_sub [1, 2, 0] rfl ?_
                exact ih10 v1 x2 M
              · refine zk_aload_n (pc := 24) B dX9_findWays_24 0 rfl rfl ?_
                refine zk_iload_n (pc := 25) B dX9_findWays_25 2 rfl rfl ?_
                refine zk_iload_n (pc := 26) B dX9_findWays_26 3 rfl rfl ?_
                refine zk_iload_n (pc := 27) B dX9_findWays_27 1 rfl rfl ?_
                refine zk_cvm (pc := 28) (k' := 0) (n' := 0) B rfl rfl (Nat.le_of_ble_eq_true rfl) (Nat.le_of_ble_eq_true rfl) (fun b hb => zr_V B hR kV_yX9_shorten km_9_26 kx_9 (gTown_s ha) [.int v2, .int v3, .int v1] rfl rfl (Nat.le_of_ble_eq_true rfl) dX9_findWays_28 (m_Town_shorten hX ha v2 v3 v1 M b hb) ⟨Nat.le_of_ble_eq_true rfl, Nat.le_of_ble_eq_true rfl⟩ ⟨Nat.le_of_ble_eq_true rfl, Nat.le_of_ble_eq_true rfl⟩) (fun M3 => ?_)
                refine zk_iinc (y := 1) (lf := fun x4 => [(3, .int x4), (0, .ref a), (1, .int v1), (2, .int v2)]) (pc := 31) B dX9_findWays_31 3 rfl (by decide) (by decide) (fun _ => rfl) (fun x4 => ?_)
                refine zk_goto (tgt := 18) (pc := 34) B dX9_findWays_34 (by decide) ?_
                refine zk_sub [1, 2, 3, 0] rfl ?_
                exact ih18 v1 v2 x4 M3
          intro v1 v2 M
          show z_K X F 4 0 0 G z_cvm b 0 0 10 [(0, .ref a), (1, .int v1), (2, .int v2)] [] M (F_Town_findWays_B10 a (F_Town_findWays_L2 a nf2) (F_Town_findWays_L10 a (F_Town_findWays_L2 a nf2) nf10) v1 v2 M)
          unfold F_Town_findWays_B10
          refine zk_iload_n (pc := 10) B dX9_findWays_10 2 rfl rfl ?_
          refine zk_bipush (v := 8) (pc := 11) B dX9_findWays_11 (by decide) ?_
          refine zk_icmp_ge (tgt := 43) (pc := 13) B dX9_findWays_13 (by decide) (fun _ => ?_) (fun _ => ?_)
          · refine zk_iinc (y := 1) (lf := fun x1 => [(1, .int x1), (0, .ref a), (2, .int v2)]) (pc := 43) B dX9_findWays_43 1 rfl (by decide) (by decide) (fun _ => rfl) (fun x1 => ?_)
            refine zk_goto (tgt := 2) (pc := 46) B dX9_findWays_46 (by decide) ?_
            refine zk_sub [1, 0] rfl ?_
            exact ih2 x1 M
          · refine zk_iconst (v := 0) (pc := 16) B dX9_findWays_16 (by decide) ?_
            refine zk_istore_n (loc' := [(3, .int 0), (0, .ref a), (1, .int v1), (2, .int v2)]) (pc := 17) B dX9_findWays_17 rfl (by decide) rfl ?_
            refine zk_sub [1, 2, 3, 0] rfl ?_
            exact L18 10000 v1 v2 0 M
      intro v1 M
      show z_K X F 4 0 0 G z_cvm b 0 0 2 [(0, .ref a), (1, .int v1)] [] M (F_Town_findWays_B2 a (F_Town_findWays_L2 a nf2) v1 M)
      unfold F_Town_findWays_B2
      refine zk_iload_n (pc := 2) B dX9_findWays_2 1 rfl rfl ?_
      refine zk_bipush (v := 8) (pc := 3) B dX9_findWays_3 (by decide) ?_
      refine zk_icmp_ge (tgt := 49) (pc := 5) B dX9_findWays_5 (by decide) (fun _ => ?_) (fun _ => ?_)
      · exact zk_vret (pc := 49) B dX9_findWays_49 rfl (Nat.le_of_ble_eq_true rfl) (Nat.le_of_ble_eq_true rfl) rfl
      · refine zk_iconst (v := 0) (pc := 8) B dX9_findWays_8 (by decide) ?_
        refine zk_istore_n (loc' := [(2, .int 0), (0, .ref a), (1, .int v1)]) (pc := 9) B dX9_findWays_9 rfl (by decide) rfl ?_
        refine zk_sub [1, 2, 0] rfl ?_
        exact L10 10000 v1 0 M
  show z_K X F 4 0 0 G z_cvm b 0 0 0 [(0, .ref a)] [] M (F_Town_findWays a M)
  unfold F_Town_findWays
  refine zk_iconst (v := 0) (pc := 0) B dX9_findWays_0 (by decide) ?_
  refine zk_istore_n (loc' := [(1, .int 0), (0, .ref a)]) (pc := 1) B dX9_findWays_1 rfl (by decide) rfl ?_
  refine zk_sub [1, 0] rfl ?_
  exact L2 10000 0 M
set_option maxHeartbeats 4000000 in
set_option maxRecDepth 100000 in
theorem m_TextReader_readText {X : z_X} (hX : z_ok X) {G : z_Gr} {o : Nat} (hG : g_Sys G o) (M : z_Mem) (b : z_Mem) (h : F_TextReader_readText o M = some b) : z_Ct X yX7_readText cX7_readText 2 none ({ frames := 5, cells := 0, slots := 0, locals := 110 } : Room) [.ref (o + 504)] G M (fun o9 G9 M9 => G9 = G ∧ (o9, M9) = z_cvm b) := by
  refine z_enter hX (by decide) (Nat.le_of_ble_eq_true rfl) h (fun F B hR => ?_)
  have J72 : ∀  (M : z_Mem), z_K X F 2 0 0 G z_cvm b 0 0 72 [(0, .ref (o + 504))] [] M (F_TextReader_readText_J72 o M) := by
    intro  M
    unfold F_TextReader_readText_J72
    refine zk_aload_n (pc := 72) B dX7_readText_72 0 rfl rfl ?_
    refine zk_getr (pc := 73) B kx_7 (gTextReader_s hG) 0 (by decide) kf_7_12 rfl (gTextReader_f0 hG) dX7_readText_73 ?_
    refine zk_cvm (pc := 76) (k' := 0) (n' := 0) B rfl rfl (Nat.le_of_ble_eq_true rfl) (Nat.le_of_ble_eq_true rfl) (fun b hb => zr_V B hR kV_yX9_findWays km_7_55 kx_9 (gTown_s (gTextReader_t0 hG)) [] rfl rfl (Nat.le_of_ble_eq_true rfl) dX7_readText_76 (m_Town_findWays hX (gTextReader_t0 hG) M b hb) ⟨Nat.le_of_ble_eq_true rfl, Nat.le_of_ble_eq_true rfl⟩ ⟨Nat.le_of_ble_eq_true rfl, Nat.le_of_ble_eq_true rfl⟩) (fun M11 => ?_)
    exact zk_vret (pc := 79) B dX7_readText_79 rfl (Nat.le_of_ble_eq_true rfl) (Nat.le_of_ble_eq_true rfl) rfl
  have L45 : ∀ (nf45 : Nat), ∀ (v1 : Int32) (M : z_Mem), z_K X F 2 0 0 G z_cvm b 0 0 45 [(0, .ref (o + 504)), (1, .int v1)] [] M (F_TextReader_readText_L45 o nf45 v1 M) := by
    intro nf45
    induction nf45 with
    | zero => intro v1 M; exact zk_none
    | succ nf45 ih45 =>
      intro v1 M
      show z_K X F 2 0 0 G z_cvm b 0 0 45 [(0, .ref (o + 504)), (1, .int v1)] [] M (F_TextReader_readText_B45 o (F_TextReader_readText_L45 o nf45) v1 M)
      unfold F_TextReader_readText_B45
      refine zk_iload_n (pc := 45) B dX7_readText_45 1 rfl rfl ?_
      refine zk_sipush (v := 800) (pc := 46) B dX7_readText_46 (by decide) ?_
      refine zk_icmp_ge (tgt := 72) (pc := 49) B dX7_readText_49 (by decide) (fun _ => ?_) (fun _ => ?_)
      · refine zk_sub [0] rfl ?_
        exact J72 M
      · refine zk_aload_n (pc := 52) B dX7_readText_52 0 rfl rfl ?_
        refine zk_getr (pc := 53) B kx_7 (gTextReader_s hG) 2 (by decide) kf_7_25 rfl (gTextReader_f2 hG) dX7_readText_53 ?_
        refine zk_cpi (pc := 56) (k' := 0) (n' := 0) B rfl rfl (Nat.le_of_ble_eq_true rfl) (Nat.le_of_ble_eq_true rfl) (fun b hb => zr_V B hR kV_yX8_hasMore km_7_48 kx_8 (gTokens_s hG) [] rfl rfl (Nat.le_of_ble_eq_true rfl) dX7_readText_56 (m_Tokens_hasMore hX hG M b hb) ⟨Nat.le_of_ble_eq_true rfl, Nat.le_of_ble_eq_true rfl⟩ ⟨Nat.le_of_ble_eq_true rfl, Nat.le_of_ble_eq_true rfl⟩) (fun x8 _ => ?_)
        refine zk_if_eq (tgt := 72) (pc := 59) B dX7_readText_59 (by decide) (fun _ => ?_) (fun _ => ?_)
        · refine zk_sub [0] rfl ?_
          exact J72 M
        · refine zk_aload_n (pc := 62) B dX7_readText_62 0 rfl rfl ?_
          refine zk_cvm (pc := 63) (k' := 0) (n' := 0) B rfl rfl (Nat.le_of_ble_eq_true rfl) (Nat.le_of_ble_eq_true rfl) (fun b hb => zr_V B hR kV_yX7_readClause km_7_52 kx_7 (gTextReader_s hG) [] rfl rfl (Nat.le_of_ble_eq_true rfl) dX7_readText_63 (m_TextReader_readClause hX hG M b hb) ⟨Nat.le_of_ble_eq_true rfl, Nat.le_of_ble_eq_true rfl⟩ ⟨Nat.le_of_ble_eq_true rfl, Nat.le_of_ble_eq_true rfl⟩) (fun M9 => ?_)
          refine zk_iinc (y := 1) (lf := fun x10 => [(1, .int x10), (0, .ref (o + 504))]) (pc := 66) B dX7_readText_66 1 rfl (by decide) (by decide) (fun _ => rfl) (fun x10 => ?_)
          refine zk_goto (tgt := 45) (pc := 69) B dX7_readText_69 (by decide) ?_
          refine zk_sub [1, 0] rfl ?_
          exact ih45 x10 M9
  show z_K X F 2 0 0 G z_cvm b 0 0 0 [(0, .ref (o + 504))] [] M (F_TextReader_readText o M)
  unfold F_TextReader_readText
  refine zk_aload_n (pc := 0) B dX7_readText_0 0 rfl rfl ?_
  refine zk_getr (pc := 1) B kx_7 (gTextReader_s hG) 1 (by decide) kf_7_21 rfl (gTextReader_f1 hG) dX7_readText_1 ?_
  refine zk_cvm (pc := 4) (k' := 0) (n' := 0) B rfl rfl (Nat.le_of_ble_eq_true rfl) (Nat.le_of_ble_eq_true rfl) (fun b hb => zr_V B hR kV_yX0_clear km_7_29 kx_0 (gDesk_s (gTextReader_t1 hG)) [] rfl rfl (Nat.le_of_ble_eq_true rfl) dX7_readText_4 (m_Desk_clear hX (gTextReader_t1 hG) M b hb) ⟨Nat.le_of_ble_eq_true rfl, Nat.le_of_ble_eq_true rfl⟩ ⟨Nat.le_of_ble_eq_true rfl, Nat.le_of_ble_eq_true rfl⟩) (fun M1 => ?_)
  refine zk_aload_n (pc := 7) B dX7_readText_7 0 rfl rfl ?_
  refine zk_getr (pc := 8) B kx_7 (gTextReader_s hG) 2 (by decide) kf_7_25 rfl (gTextReader_f2 hG) dX7_readText_8 ?_
  refine zk_iconst (v := 0) (pc := 11) B dX7_readText_11 (by decide) ?_
  refine zk_iconst (v := 0) (pc := 12) B dX7_readText_12 (by decide) ?_
  refine zk_cim (pc := 13) (k' := 0) (n' := 0) B rfl rfl (Nat.le_of_ble_eq_true rfl) (Nat.le_of_ble_eq_true rfl) (fun b hb => zr_V B hR kV_yX8_takeWord km_7_34 kx_8 (gTokens_s hG) [.int 0, .int 0] rfl rfl (Nat.le_of_ble_eq_true rfl) dX7_readText_13 (m_Tokens_takeWord hX hG 0 0 M1 b hb) ⟨Nat.le_of_ble_eq_true rfl, Nat.le_of_ble_eq_true rfl⟩ ⟨Nat.le_of_ble_eq_true rfl, Nat.le_of_ble_eq_true rfl⟩) (fun x3 M2 => ?_)
  refine zk_pop (pc := 16) B dX7_readText_16 rfl ?_
  refine zk_aload_n (pc := 17) B dX7_readText_17 0 rfl rfl ?_
  refine zk_getr (pc := 18) B kx_7 (gTextReader_s hG) 0 (by decide) kf_7_12 rfl (gTextReader_f0 hG) dX7_readText_18 ?_
  refine zk_aload_n (pc := 21) B dX7_readText_21 0 rfl rfl ?_
  refine zk_getr (pc := 22) B kx_7 (gTextReader_s hG) 2 (by decide) kf_7_25 rfl (gTextReader_f2 hG) dX7_readText_22 ?_
  refine zk_iconst (v := 2) (pc := 25) B dX7_readText_25 (by decide) ?_
  refine zk_bipush (v := 8) (pc := 26) B dX7_readText_26 (by decide) ?_
  refine zk_cim (pc := 28) (k' := 0) (n' := 0) B rfl rfl (Nat.le_of_ble_eq_true rfl) (Nat.le_of_ble_eq_true rfl) (fun b hb => zr_V B hR kV_yX8_takeNumber km_7_38 kx_8 (gTokens_s hG) [.int 2, .int 8] rfl rfl (Nat.le_of_ble_eq_true rfl) dX7_readText_28 (m_Tokens_takeNumber hX hG 2 8 M2 b hb) ⟨Nat.le_of_ble_eq_true rfl, Nat.le_of_ble_eq_true rfl⟩ ⟨Nat.le_of_ble_eq_true rfl, Nat.le_of_ble_eq_true rfl⟩) (fun x5 M4 => ?_)
  refine zk_cvm (pc := 31) (k' := 0) (n' := 0) B rfl rfl (Nat.le_of_ble_eq_true rfl) (Nat.le_of_ble_eq_true rfl) (fun b hb => zr_V B hR kV_yX9_clear km_7_41 kx_9 (gTown_s (gTextReader_t0 hG)) [.int x5] rfl rfl (Nat.le_of_ble_eq_true rfl) dX7_readText_31 (m_Town_clear hX (gTextReader_t0 hG) x5 M4 b hb) ⟨Nat.le_of_ble_eq_true rfl, Nat.le_of_ble_eq_true rfl⟩ ⟨Nat.le_of_ble_eq_true rfl, Nat.le_of_ble_eq_true rfl⟩) (fun M6 => ?_)
  refine zk_aload_n (pc := 34) B dX7_readText_34 0 rfl rfl ?_
  refine zk_getr (pc := 35) B kx_7 (gTextReader_s hG) 2 (by decide) kf_7_25 rfl (gTextReader_f2 hG) dX7_readText_35 ?_
  refine zk_bipush (v := 59) (pc := 38) B dX7_readText_38 (by decide) ?_
  refine zk_cvm (pc := 40) (k' := 0) (n' := 0) B rfl rfl (Nat.le_of_ble_eq_true rfl) (Nat.le_of_ble_eq_true rfl) (fun b hb => zr_V B hR kV_yX8_takeSign km_7_44 kx_8 (gTokens_s hG) [.int 59] rfl rfl (Nat.le_of_ble_eq_true rfl) dX7_readText_40 (m_Tokens_takeSign hX hG 59 M6 b hb) ⟨Nat.le_of_ble_eq_true rfl, Nat.le_of_ble_eq_true rfl⟩ ⟨Nat.le_of_ble_eq_true rfl, Nat.le_of_ble_eq_true rfl⟩) (fun M7 => ?_)
  refine zk_iconst (v := 0) (pc := 43) B dX7_readText_43 (by decide) ?_
  refine zk_istore_n (loc' := [(1, .int 0), (0, .ref (o + 504))]) (pc := 44) B dX7_readText_44 rfl (by decide) rfl ?_
  refine zk_sub [1, 0] rfl ?_
  exact L45 10000 0 M7
set_option maxHeartbeats 4000000 in
set_option maxRecDepth 100000 in
theorem m_Tokens_byteAt {X : z_X} (hX : z_ok X) {G : z_Gr} {o : Nat} (hG : g_Sys G o) (p0 : Int32) (M : z_Mem) (b : Int32) (h : F_Tokens_byteAt o p0 M = some b) : z_Ct X yX8_byteAt cX8_byteAt 2 (some .int) ({ frames := 0, cells := 0, slots := 0, locals := 0 } : Room) [.ref (o + 499), .int p0] G M (fun o9 G9 M9 => G9 = G ∧ (o9, M9) = (z_ci M) b) := by
  refine z_enter hX (by decide) (Nat.le_of_ble_eq_true rfl) h (fun F B hR => ?_)
  show z_K X F 2 0 0 G (z_ci M) b 0 0 0 [(0, .ref (o + 499)), (1, .int p0)] [] M (F_Tokens_byteAt o p0 M)
  unfold F_Tokens_byteAt
  refine zk_iload_n (pc := 0) B dX8_byteAt_0 1 rfl rfl ?_
  refine zk_if_lt (tgt := 26) (pc := 1) B dX8_byteAt_1 (by decide) (fun _ => ?_) (fun _ => ?_)
  · refine zk_iconst (v := 0) (pc := 26) B dX8_byteAt_26 (by decide) ?_
    exact zk_iret (pc := 27) B dX8_byteAt_27 rfl rfl (Nat.le_of_ble_eq_true rfl) (Nat.le_of_ble_eq_true rfl) rfl
  · refine zk_iload_n (pc := 4) B dX8_byteAt_4 1 rfl rfl ?_
    refine zk_aload_n (pc := 5) B dX8_byteAt_5 0 rfl rfl ?_
    refine zk_getr (pc := 6) B kx_8 (gTokens_s hG) 2 (by decide) kf_8_28 rfl (gTokens_f2 hG) dX8_byteAt_6 ?_
    refine zk_alen (v := 800) (pc := 9) B (gTokens_t2 hG) (by decide) (by decide) dX8_byteAt_9 ?_
    refine zk_icmp_ge (tgt := 26) (pc := 10) B dX8_byteAt_10 (by decide) (fun _ => ?_) (fun _ => ?_)
    · refine zk_iconst (v := 0) (pc := 26) B dX8_byteAt_26 (by decide) ?_
      exact zk_iret (pc := 27) B dX8_byteAt_27 rfl rfl (Nat.le_of_ble_eq_true rfl) (Nat.le_of_ble_eq_true rfl) rfl
    · refine zk_aload_n (pc := 13) B dX8_byteAt_13 0 rfl rfl ?_
      refine zk_getr (pc := 14) B kx_8 (gTokens_s hG) 2 (by decide) kf_8_28 rfl (gTokens_f2 hG) dX8_byteAt_14 ?_
      refine zk_iload_n (pc := 17) B dX8_byteAt_17 1 rfl rfl ?_
      refine zk_bald (pc := 18) B (gTokens_t2 hG) dX8_byteAt_18 ?_
      refine zk_sipush (v := 255) (pc := 19) B dX8_byteAt_19 (by decide) ?_
      refine zk_iand (pc := 22) B dX8_byteAt_22 ?_
      refine zk_goto (tgt := 27) (pc := 23) B dX8_byteAt_23 (by decide) ?_
      exact zk_iret (pc := 27) B dX8_byteAt_27 rfl rfl (Nat.le_of_ble_eq_true rfl) (Nat.le_of_ble_eq_true rfl) rfl
set_option maxHeartbeats 4000000 in
set_option maxRecDepth 100000 in
theorem m_Tokens_kindOf {X : z_X} (hX : z_ok X) {G : z_Gr} (p0 : Int32) (M : z_Mem) (b : Int32) (h : F_Tokens_kindOf p0 M = some b) : z_Ct X yX8_kindOf cX8_kindOf 1 (some .int) ({ frames := 0, cells := 0, slots := 0, locals := 0 } : Room) [.int p0] G M (fun o9 G9 M9 => G9 = G ∧ (o9, M9) = (z_ci M) b) := by
  refine z_enter hX (by decide) (Nat.le_of_ble_eq_true rfl) h (fun F B hR => ?_)
  have J28 : ∀ (v0 : Int32), z_K X F 1 0 0 G (z_ci M) b 0 0 28 [(0, .int v0)] [] M (F_Tokens_kindOf_J28 v0 M) := by
    intro v0
    unfold F_Tokens_kindOf_J28
    refine zk_iload_n (pc := 28) B dX8_kindOf_28 0 rfl rfl ?_
    refine zk_bipush (v := 48) (pc := 29) B dX8_kindOf_29 (by decide) ?_
    refine zk_icmp_lt (tgt := 44) (pc := 31) B dX8_kindOf_31 (by decide) (fun _ => ?_) (fun _ => ?_)
    · refine zk_iconst (v := 3) (pc := 44) B dX8_kindOf_44 (by decide) ?_
      exact zk_iret (pc := 45) B dX8_kindOf_45 rfl rfl (Nat.le_of_ble_eq_true rfl) (Nat.le_of_ble_eq_true rfl) rfl
    · refine zk_iload_n (pc := 34) B dX8_kindOf_34 0 rfl rfl ?_
      refine zk_bipush (v := 57) (pc := 35) B dX8_kindOf_35 (by decide) ?_
      refine zk_icmp_gt (tgt := 44) (pc := 37) B dX8_kindOf_37 (by decide) (fun _ => ?_) (fun _ => ?_)
      · refine zk_iconst (v := 3) (pc := 44) B dX8_kindOf_44 (by decide) ?_
        exact zk_iret (pc := 45) B dX8_kindOf_45 rfl rfl (Nat.le_of_ble_eq_true rfl) (Nat.le_of_ble_eq_true rfl) rfl
      · refine zk_iconst (v := 2) (pc := 40) B dX8_kindOf_40 (by decide) ?_
        refine zk_goto (tgt := 45) (pc := 41) B dX8_kindOf_41 (by decide) ?_
        exact zk_iret (pc := 45) B dX8_kindOf_45 rfl rfl (Nat.le_of_ble_eq_true rfl) (Nat.le_of_ble_eq_true rfl) rfl
  show z_K X F 1 0 0 G (z_ci M) b 0 0 0 [(0, .int p0)] [] M (F_Tokens_kindOf p0 M)
  unfold F_Tokens_kindOf
  refine zk_iload_n (pc := 0) B dX8_kindOf_0 0 rfl rfl ?_
  refine zk_bipush (v := 32) (pc := 1) B dX8_kindOf_1 (by decide) ?_
  refine zk_icmp_eq (tgt := 12) (pc := 3) B dX8_kindOf_3 (by decide) (fun _ => ?_) (fun _ => ?_)
  · refine zk_iconst (v := 0) (pc := 12) B dX8_kindOf_12 (by decide) ?_
    exact zk_iret (pc := 13) B dX8_kindOf_13 rfl rfl (Nat.le_of_ble_eq_true rfl) (Nat.le_of_ble_eq_true rfl) rfl
  · refine zk_iload_n (pc := 6) B dX8_kindOf_6 0 rfl rfl ?_
    refine zk_bipush (v := 10) (pc := 7) B dX8_kindOf_7 (by decide) ?_
    refine zk_icmp_ne (tgt := 14) (pc := 9) B dX8_kindOf_9 (by decide) (fun _ => ?_) (fun _ => ?_)
    · refine zk_iload_n (pc := 14) B dX8_kindOf_14 0 rfl rfl ?_
      refine zk_bipush (v := 97) (pc := 15) B dX8_kindOf_15 (by decide) ?_
      refine zk_icmp_lt (tgt := 28) (pc := 17) B dX8_kindOf_17 (by decide) (fun _ => ?_) (fun _ => ?_)
      · exact J28 p0
      · refine zk_iload_n (pc := 20) B dX8_kindOf_20 0 rfl rfl ?_
        refine zk_bipush (v := 122) (pc := 21) B dX8_kindOf_21 (by decide) ?_
        refine zk_icmp_gt (tgt := 28) (pc := 23) B dX8_kindOf_23 (by decide) (fun _ => ?_) (fun _ => ?_)
        · exact J28 p0
        · refine zk_iconst (v := 1) (pc := 26) B dX8_kindOf_26 (by decide) ?_
          exact zk_iret (pc := 27) B dX8_kindOf_27 rfl rfl (Nat.le_of_ble_eq_true rfl) (Nat.le_of_ble_eq_true rfl) rfl
    · refine zk_iconst (v := 0) (pc := 12) B dX8_kindOf_12 (by decide) ?_
      exact zk_iret (pc := 13) B dX8_kindOf_13 rfl rfl (Nat.le_of_ble_eq_true rfl) (Nat.le_of_ble_eq_true rfl) rfl
set_option maxHeartbeats 4000000 in
set_option maxRecDepth 100000 in
theorem m_Tokens_appendToken {X : z_X} (hX : z_ok X) {G : z_Gr} {o : Nat} (hG : g_Sys G o) (p0 : Int32) (p1 : Int32) (M : z_Mem) (b : z_Mem) (h : F_Tokens_appendToken o p0 p1 M = some b) : z_Ct X yX8_appendToken cX8_appendToken 3 none ({ frames := 0, cells := 0, slots := 0, locals := 0 } : Room) [.ref (o + 499), .int p0, .int p1] G M (fun o9 G9 M9 => G9 = G ∧ (o9, M9) = z_cvm b) := by
  refine z_enter hX (by decide) (Nat.le_of_ble_eq_true rfl) h (fun F B hR => ?_)
  show z_K X F 3 0 0 G z_cvm b 0 0 0 [(0, .ref (o + 499)), (1, .int p0), (2, .int p1)] [] M (F_Tokens_appendToken o p0 p1 M)
  unfold F_Tokens_appendToken
  refine zk_aload_n (pc := 0) B dX8_appendToken_0 0 rfl rfl ?_
  refine zk_geti (pc := 1) B kx_8 (gTokens_s hG) 7 (by decide) kf_8_35 rfl dX8_appendToken_1 ?_
  refine zk_if_lt (tgt := 67) (pc := 4) B dX8_appendToken_4 (by decide) (fun _ => ?_) (fun _ => ?_)
  · exact zk_vret (pc := 67) B dX8_appendToken_67 rfl (Nat.le_of_ble_eq_true rfl) (Nat.le_of_ble_eq_true rfl) rfl
  · refine zk_aload_n (pc := 7) B dX8_appendToken_7 0 rfl rfl ?_
    refine zk_geti (pc := 8) B kx_8 (gTokens_s hG) 7 (by decide) kf_8_35 rfl dX8_appendToken_8 ?_
    refine zk_sipush (v := 800) (pc := 11) B dX8_appendToken_11 (by decide) ?_
    refine zk_icmp_gt (tgt := 67) (pc := 14) B dX8_appendToken_14 (by decide) (fun _ => ?_) (fun _ => ?_)
    · exact zk_vret (pc := 67) B dX8_appendToken_67 rfl (Nat.le_of_ble_eq_true rfl) (Nat.le_of_ble_eq_true rfl) rfl
    · refine zk_aload_n (pc := 17) B dX8_appendToken_17 0 rfl rfl ?_
      refine zk_getr (pc := 18) B kx_8 (gTokens_s hG) 3 (by decide) kf_8_15 rfl (gTokens_f3 hG) dX8_appendToken_18 ?_
      refine zk_aload_n (pc := 21) B dX8_appendToken_21 0 rfl rfl ?_
      refine zk_geti (pc := 22) B kx_8 (gTokens_s hG) 7 (by decide) kf_8_35 rfl dX8_appendToken_22 ?_
      refine zk_iload_n (pc := 25) B dX8_appendToken_25 1 rfl rfl ?_
      refine zk_iast (pc := 26) B (gTokens_t3 hG) dX8_appendToken_26 ?_
      refine zk_lm (fun M1 => ?_)
      refine zk_aload_n (pc := 27) B dX8_appendToken_27 0 rfl rfl ?_
      refine zk_getr (pc := 28) B kx_8 (gTokens_s hG) 4 (by decide) kf_8_19 rfl (gTokens_f4 hG) dX8_appendToken_28 ?_
      refine zk_aload_n (pc := 31) B dX8_appendToken_31 0 rfl rfl ?_
      refine zk_geti (pc := 32) B kx_8 (gTokens_s hG) 7 (by decide) kf_8_35 rfl dX8_appendToken_32 ?_
      refine zk_iload_n (pc := 35) B dX8_appendToken_35 2 rfl rfl ?_
      refine zk_iast (pc := 36) B (gTokens_t4 hG) dX8_appendToken_36 ?_
      refine zk_lm (fun M2 => ?_)
      refine zk_aload_n (pc := 37) B dX8_appendToken_37 0 rfl rfl ?_
      refine zk_getr (pc := 38) B kx_8 (gTokens_s hG) 5 (by decide) kf_8_22 rfl (gTokens_f5 hG) dX8_appendToken_38 ?_
      refine zk_aload_n (pc := 41) B dX8_appendToken_41 0 rfl rfl ?_
      refine zk_geti (pc := 42) B kx_8 (gTokens_s hG) 7 (by decide) kf_8_35 rfl dX8_appendToken_42 ?_
      refine zk_iconst (v := 0) (pc := 45) B dX8_appendToken_45 (by decide) ?_
      refine zk_iast (pc := 46) B (gTokens_t5 hG) dX8_appendToken_46 ?_
      refine zk_lm (fun M3 => ?_)
      refine zk_aload_n (pc := 47) B dX8_appendToken_47 0 rfl rfl ?_
      refine zk_getr (pc := 48) B kx_8 (gTokens_s hG) 6 (by decide) kf_8_25 rfl (gTokens_f6 hG) dX8_appendToken_48 ?_
      refine zk_aload_n (pc := 51) B dX8_appendToken_51 0 rfl rfl ?_
      refine zk_geti (pc := 52) B kx_8 (gTokens_s hG) 7 (by decide) kf_8_35 rfl dX8_appendToken_52 ?_
      refine zk_iconst (v := 0) (pc := 55) B dX8_appendToken_55 (by decide) ?_
      refine zk_iast (pc := 56) B (gTokens_t6 hG) dX8_appendToken_56 ?_
      refine zk_lm (fun M4 => ?_)
      refine zk_aload_n (pc := 57) B dX8_appendToken_57 0 rfl rfl ?_
      refine zk_dup (pc := 58) B dX8_appendToken_58 rfl ?_
      refine zk_geti (pc := 59) B kx_8 (gTokens_s hG) 7 (by decide) kf_8_35 rfl dX8_appendToken_59 ?_
      refine zk_iconst (v := 1) (pc := 62) B dX8_appendToken_62 (by decide) ?_
      refine zk_iadd (pc := 63) B dX8_appendToken_63 ?_
      refine zk_puti (pc := 64) B kx_8 (gTokens_s hG) 7 (by decide) kf_8_35 rfl rfl rfl rfl dX8_appendToken_64 ?_
      refine zk_lm (fun M5 => ?_)
      exact zk_vret (pc := 67) B dX8_appendToken_67 rfl (Nat.le_of_ble_eq_true rfl) (Nat.le_of_ble_eq_true rfl) rfl
