/-! ===== walks of the class (by program) ===== -/
set_option maxHeartbeats 4000000 in
set_option maxRecDepth 100000 in
theorem m_Sys_appendFourBytes {X : z_X} (hX : z_ok X) {G : z_Gr} {o : Nat} (hG : g_Sys G o) (p0 : Int32) (M : z_Mem) (b : z_Mem) (h : F_Sys_appendFourBytes o p0 M = some b) : z_Ct X yX11_appendFourBytes cX11_appendFourBytes 3 none ({ frames := 0, cells := 0, slots := 0, locals := 0 } : Room) [.ref o, .int p0] G M (fun o9 G9 M9 => G9 = G ∧ (o9, M9) = z_cvm b) := by
  refine z_enter hX (by decide) (Nat.le_of_ble_eq_true rfl) h (fun F B hR => ?_)
  have L3 : ∀ (nf3 : Nat), ∀ (v1 : Int32) (v2 : Int32) (M : z_Mem), z_K X F 3 0 0 G z_cvm b 0 0 3 [(0, .ref o), (1, .int v1), (2, .int v2)] [] M (F_Sys_appendFourBytes_L3 o nf3 v1 v2 M) := by
    intro nf3
    induction nf3 with
    | zero => intro v1 v2 M; exact zk_none
    | succ nf3 ih3 =>
      intro v1 v2 M
      show z_K X F 3 0 0 G z_cvm b 0 0 3 [(0, .ref o), (1, .int v1), (2, .int v2)] [] M (F_Sys_appendFourBytes_B3 o (F_Sys_appendFourBytes_L3 o nf3) v1 v2 M)
      unfold F_Sys_appendFourBytes_B3
      refine zk_iload_n (pc := 3) B dX11_appendFourBytes_3 2 rfl rfl ?_
      refine zk_if_lt (tgt := 55) (pc := 4) B dX11_appendFourBytes_4 (by decide) (fun _ => ?_) (fun _ => ?_)
      · exact zk_vret (pc := 55) B dX11_appendFourBytes_55 rfl (Nat.le_of_ble_eq_true rfl) (Nat.le_of_ble_eq_true rfl) rfl
      · refine zk_aload_n (pc := 7) B dX11_appendFourBytes_7 0 rfl rfl ?_
        refine zk_geti (pc := 8) B kx_11 (gSys_s hG) 1 (by decide) kf_11_13 rfl dX11_appendFourBytes_8 ?_
        refine zk_if_lt (tgt := 49) (pc := 11) B dX11_appendFourBytes_11 (by decide) (fun _ => ?_) (fun _ => ?_)
        · refine zk_iinc (y := (-8)) (lf := fun x1 => [(2, .int x1), (0, .ref o), (1, .int v1)]) (pc := 49) B dX11_appendFourBytes_49 2 rfl (by decide) (by decide) (fun _ => rfl) (fun x1 => ?_)
          refine zk_goto (tgt := 3) (pc := 52) B dX11_appendFourBytes_52 (by decide) ?_
          refine zk_sub [1, 2, 0] rfl ?_
          exact ih3 v1 x1 M
        · refine zk_aload_n (pc := 14) B dX11_appendFourBytes_14 0 rfl rfl ?_
          refine zk_geti (pc := 15) B kx_11 (gSys_s hG) 1 (by decide) kf_11_13 rfl dX11_appendFourBytes_15 ?_
          refine zk_aload_n (pc := 18) B dX11_appendFourBytes_18 0 rfl rfl ?_
          refine zk_getr (pc := 19) B kx_11 (gSys_s hG) 0 (by decide) kf_11_9 rfl (gSys_f0 hG) dX11_appendFourBytes_19 ?_
          refine zk_alen (v := 800) (pc := 22) B (gSys_t0 hG) (by decide) (by decide) dX11_appendFourBytes_22 ?_
          refine zk_icmp_ge (tgt := 49) (pc := 23) B dX11_appendFourBytes_23 (by decide) (fun _ => ?_) (fun _ => ?_)
          · refine zk_iinc (y := (-8)) (lf := fun x2 => [(2, .int x2), (0, .ref o), (1, .int v1)]) (pc := 49) B dX11_appendFourBytes_49 2 rfl (by decide) (by decide) (fun _ => rfl) (fun x2 => ?_)
            refine zk_goto (tgt := 3) (pc := 52) B dX11_appendFourBytes_52 (by decide) ?_
            refine zk_sub [1, 2, 0] rfl ?_
            exact ih3 v1 x2 M
          · refine zk_aload_n (pc := 26) B dX11_appendFourBytes_26 0 rfl rfl ?_
            refine zk_getr (pc := 27) B kx_11 (gSys_s hG) 0 (by decide) kf_11_9 rfl (gSys_f0 hG) dX11_appendFourBytes_27 ?_
            refine zk_aload_n (pc := 30) B dX11_appendFourBytes_30 0 rfl rfl ?_
            refine zk_geti (pc := 31) B kx_11 (gSys_s hG) 1 (by decide) kf_11_13 rfl dX11_appendFourBytes_31 ?_
            refine zk_iload_n (pc := 34) B dX11_appendFourBytes_34 1 rfl rfl ?_
            refine zk_iload_n (pc := 35) B dX11_appendFourBytes_35 2 rfl rfl ?_
            refine zk_ishr (pc := 36) B dX11_appendFourBytes_36 ?_
            refine zk_i2b (pc := 37) B dX11_appendFourBytes_37 ?_
            refine zk_bast (pc := 38) B (gSys_t0 hG) dX11_appendFourBytes_38 ?_
            refine zk_lm (fun M3 => ?_)
            refine zk_aload_n (pc := 39) B dX11_appendFourBytes_39 0 rfl rfl ?_
            refine zk_dup (pc := 40) B dX11_appendFourBytes_40 rfl ?_
            refine zk_geti (pc := 41) B kx_11 (gSys_s hG) 1 (by decide) kf_11_13 rfl dX11_appendFourBytes_41 ?_
            refine zk_iconst (v := 1) (pc := 44) B dX11_appendFourBytes_44 (by decide) ?_
            refine zk_iadd (pc := 45) B dX11_appendFourBytes_45 ?_
            refine zk_puti (pc := 46) B kx_11 (gSys_s hG) 1 (by decide) kf_11_13 rfl rfl rfl rfl dX11_appendFourBytes_46 ?_
            refine zk_lm (fun M4 => ?_)
            refine zk_iinc (y := (-8)) (lf := fun x5 => [(2, .int x5), (0, .ref o), (1, .int v1)]) (pc := 49) B dX11_appendFourBytes_49 2 rfl (by decide) (by decide) (fun _ => rfl) (fun x5 => ?_)
            refine zk_goto (tgt := 3) (pc := 52) B dX11_appendFourBytes_52 (by decide) ?_
            refine zk_sub [1, 2, 0] rfl ?_
            exact ih3 v1 x5 M4
  show z_K X F 3 0 0 G z_cvm b 0 0 0 [(0, .ref o), (1, .int p0)] [] M (F_Sys_appendFourBytes o p0 M)
  unfold F_Sys_appendFourBytes
  refine zk_bipush (v := 24) (pc := 0) B dX11_appendFourBytes_0 (by decide) ?_
  refine zk_istore_n (loc' := [(2, .int 24), (0, .ref o), (1, .int p0)]) (pc := 2) B dX11_appendFourBytes_2 rfl (by decide) rfl ?_
  refine zk_sub [1, 2, 0] rfl ?_
  exact L3 10000 p0 24 M
set_option maxHeartbeats 4000000 in
set_option maxRecDepth 100000 in
theorem m_Sys_feed {X : z_X} (hX : z_ok X) {G : z_Gr} {o : Nat} (hG : g_Sys G o) (p0 : Int32) (p1 : Int32) (p2 : Int32) (p3 : Int32) (p4 : Int32) (M : z_Mem) (b : Int32 × z_Mem) (h : F_Sys_feed o p0 p1 p2 p3 p4 M = some b) : z_Ct X yX11_feed cX11_feed 6 (some .int) ({ frames := 1, cells := 0, slots := 0, locals := 22 } : Room) [.ref o, .int p0, .int p1, .int p2, .int p3, .int p4] G M (fun o9 G9 M9 => G9 = G ∧ (o9, M9) = z_cim b) := by
  refine z_enter hX (by decide) (Nat.le_of_ble_eq_true rfl) h (fun F B hR => ?_)
  show z_K X F 6 0 0 G z_cim b 0 0 0 [(0, .ref o), (1, .int p0), (2, .int p1), (3, .int p2), (4, .int p3), (5, .int p4)] [] M (F_Sys_feed o p0 p1 p2 p3 p4 M)
  unfold F_Sys_feed
  refine zk_aload_n (pc := 0) B dX11_feed_0 0 rfl rfl ?_
  refine zk_geti (pc := 1) B kx_11 (gSys_s hG) 1 (by decide) kf_11_13 rfl dX11_feed_1 ?_
  refine zk_bipush (v := 20) (pc := 4) B dX11_feed_4 (by decide) ?_
  refine zk_iadd (pc := 6) B dX11_feed_6 ?_
  refine zk_sipush (v := 800) (pc := 7) B dX11_feed_7 (by decide) ?_
  refine zk_icmp_le (tgt := 15) (pc := 10) B dX11_feed_10 (by decide) (fun _ => ?_) (fun _ => ?_)
  · refine zk_aload_n (pc := 15) B dX11_feed_15 0 rfl rfl ?_
    refine zk_iload_n (pc := 16) B dX11_feed_16 1 rfl rfl ?_
    refine zk_cvm (pc := 17) (k' := 0) (n' := 0) B rfl rfl (Nat.le_of_ble_eq_true rfl) (Nat.le_of_ble_eq_true rfl) (fun b hb => zr_V B hR kV_yX11_appendFourBytes km_11_114 kx_11 (gSys_s hG) [.int p0] rfl rfl (Nat.le_of_ble_eq_true rfl) dX11_feed_17 (m_Sys_appendFourBytes hX hG p0 M b hb) ⟨Nat.le_of_ble_eq_true rfl, Nat.le_of_ble_eq_true rfl⟩ ⟨Nat.le_of_ble_eq_true rfl, Nat.le_of_ble_eq_true rfl⟩) (fun M1 => ?_)
    refine zk_aload_n (pc := 20) B dX11_feed_20 0 rfl rfl ?_
    refine zk_iload_n (pc := 21) B dX11_feed_21 2 rfl rfl ?_
    refine zk_cvm (pc := 22) (k' := 0) (n' := 0) B rfl rfl (Nat.le_of_ble_eq_true rfl) (Nat.le_of_ble_eq_true rfl) (fun b hb => zr_V B hR kV_yX11_appendFourBytes km_11_114 kx_11 (gSys_s hG) [.int p1] rfl rfl (Nat.le_of_ble_eq_true rfl) dX11_feed_22 (m_Sys_appendFourBytes hX hG p1 M1 b hb) ⟨Nat.le_of_ble_eq_true rfl, Nat.le_of_ble_eq_true rfl⟩ ⟨Nat.le_of_ble_eq_true rfl, Nat.le_of_ble_eq_true rfl⟩) (fun M2 => ?_)
    refine zk_aload_n (pc := 25) B dX11_feed_25 0 rfl rfl ?_
    refine zk_iload_n (pc := 26) B dX11_feed_26 3 rfl rfl ?_
    refine zk_cvm (pc := 27) (k' := 0) (n' := 0) B rfl rfl (Nat.le_of_ble_eq_true rfl) (Nat.le_of_ble_eq_true rfl) (fun b hb => zr_V B hR kV_yX11_appendFourBytes km_11_114 kx_11 (gSys_s hG) [.int p2] rfl rfl (Nat.le_of_ble_eq_true rfl) dX11_feed_27 (m_Sys_appendFourBytes hX hG p2 M2 b hb) ⟨Nat.le_of_ble_eq_true rfl, Nat.le_of_ble_eq_true rfl⟩ ⟨Nat.le_of_ble_eq_true rfl, Nat.le_of_ble_eq_true rfl⟩) (fun M3 => ?_)
    refine zk_aload_n (pc := 30) B dX11_feed_30 0 rfl rfl ?_
    refine zk_iload (pc := 31) B dX11_feed_31 4 rfl ?_
    refine zk_cvm (pc := 33) (k' := 0) (n' := 0) B rfl rfl (Nat.le_of_ble_eq_true rfl) (Nat.le_of_ble_eq_true rfl) (fun b hb => zr_V B hR kV_yX11_appendFourBytes km_11_114 kx_11 (gSys_s hG) [.int p3] rfl rfl (Nat.le_of_ble_eq_true rfl) dX11_feed_33 (m_Sys_appendFourBytes hX hG p3 M3 b hb) ⟨Nat.le_of_ble_eq_true rfl, Nat.le_of_ble_eq_true rfl⟩ ⟨Nat.le_of_ble_eq_true rfl, Nat.le_of_ble_eq_true rfl⟩) (fun M4 => ?_)
    refine zk_aload_n (pc := 36) B dX11_feed_36 0 rfl rfl ?_
    refine zk_iload (pc := 37) B dX11_feed_37 5 rfl ?_
    refine zk_cvm (pc := 39) (k' := 0) (n' := 0) B rfl rfl (Nat.le_of_ble_eq_true rfl) (Nat.le_of_ble_eq_true rfl) (fun b hb => zr_V B hR kV_yX11_appendFourBytes km_11_114 kx_11 (gSys_s hG) [.int p4] rfl rfl (Nat.le_of_ble_eq_true rfl) dX11_feed_39 (m_Sys_appendFourBytes hX hG p4 M4 b hb) ⟨Nat.le_of_ble_eq_true rfl, Nat.le_of_ble_eq_true rfl⟩ ⟨Nat.le_of_ble_eq_true rfl, Nat.le_of_ble_eq_true rfl⟩) (fun M5 => ?_)
    refine zk_aload_n (pc := 42) B dX11_feed_42 0 rfl rfl ?_
    refine zk_geti (pc := 43) B kx_11 (gSys_s hG) 1 (by decide) kf_11_13 rfl dX11_feed_43 ?_
    exact zk_iret (pc := 46) B dX11_feed_46 rfl rfl (Nat.le_of_ble_eq_true rfl) (Nat.le_of_ble_eq_true rfl) rfl
  · refine zk_iconst (v := (-1)) (pc := 13) B dX11_feed_13 (by decide) ?_
    exact zk_iret (pc := 14) B dX11_feed_14 rfl rfl (Nat.le_of_ble_eq_true rfl) (Nat.le_of_ble_eq_true rfl) rfl
set_option maxHeartbeats 4000000 in
set_option maxRecDepth 100000 in
theorem m_Sys_load {X : z_X} (hX : z_ok X) {G : z_Gr} {o : Nat} (hG : g_Sys G o) (p0 : Int32) (M : z_Mem) (b : Except Nat Int32 × z_Mem) (h : F_Sys_load o p0 M = some b) : z_Ct X yX11_load cX11_load 2 (some .int) ({ frames := 12, cells := 1, slots := 6, locals := 296 } : Room) [.ref o, .int p0] G M (fun o9 G9 M9 => G9 = G ∧ (o9, M9) = z_xim b) := by
  refine z_enter hX (by decide) (Nat.le_of_ble_eq_true rfl) h (fun F B hR => ?_)
  have J12 : ∀  (M : z_Mem), z_K X F 2 1 6 G z_xim b 0 0 12 [] [] M (F_Sys_load_J12 o M) := by
    intro  M
    unfold F_Sys_load_J12
    exact zk_throw2 (pc := 12) B hR 117 119 (text := "no such length") kk_11_117 ki_e2 (by decide +kernel) dX11_load_12 dX11_load_15 dX11_load_16 dX11_load_18 dX11_load_21 (Nat.le_of_ble_eq_true rfl) (Nat.le_of_ble_eq_true rfl) (Nat.le_of_ble_eq_true rfl) (Nat.le_of_ble_eq_true rfl) (Nat.le_of_ble_eq_true rfl) (Nat.le_of_ble_eq_true rfl) rfl
  show z_K X F 2 1 6 G z_xim b 0 0 0 [(0, .ref o), (1, .int p0)] [] M (F_Sys_load o p0 M)
  unfold F_Sys_load
  refine zk_iload_n (pc := 0) B dX11_load_0 1 rfl rfl ?_
  refine zk_if_lt (tgt := 12) (pc := 1) B dX11_load_1 (by decide) (fun _ => ?_) (fun _ => ?_)
  · refine zk_sub [] rfl ?_
    exact J12 M
  · refine zk_iload_n (pc := 4) B dX11_load_4 1 rfl rfl ?_
    refine zk_aload_n (pc := 5) B dX11_load_5 0 rfl rfl ?_
    refine zk_geti (pc := 6) B kx_11 (gSys_s hG) 1 (by decide) kf_11_13 rfl dX11_load_6 ?_
    refine zk_icmp_le (tgt := 22) (pc := 9) B dX11_load_9 (by decide) (fun _ => ?_) (fun _ => ?_)
    · refine zk_aload_n (pc := 22) B dX11_load_22 0 rfl rfl ?_
      refine zk_iconst (v := 0) (pc := 23) B dX11_load_23 (by decide) ?_
      refine zk_puti (pc := 24) B kx_11 (gSys_s hG) 1 (by decide) kf_11_13 rfl rfl rfl rfl dX11_load_24 ?_
      refine zk_lm (fun M1 => ?_)
      refine zk_aload_n (pc := 27) B dX11_load_27 0 rfl rfl ?_
      refine zk_getr (pc := 28) B kx_11 (gSys_s hG) 13 (by decide) kf_11_86 rfl (gSys_f13 hG) dX11_load_28 ?_
      refine zk_iload_n (pc := 31) B dX11_load_31 1 rfl rfl ?_
      refine zk_cvm (pc := 32) (k' := 0) (n' := 0) B rfl rfl (Nat.le_of_ble_eq_true rfl) (Nat.le_of_ble_eq_true rfl) (fun b hb => zr_V B hR kV_yX8_begin km_11_124 kx_8 (gTokens_s hG) [.int p0] rfl rfl (Nat.le_of_ble_eq_true rfl) dX11_load_32 (m_Tokens_begin hX hG p0 M1 b hb) ⟨Nat.le_of_ble_eq_true rfl, Nat.le_of_ble_eq_true rfl⟩ ⟨Nat.le_of_ble_eq_true rfl, Nat.le_of_ble_eq_true rfl⟩) (fun M2 => ?_)
      refine zk_aload_n (pc := 35) B dX11_load_35 0 rfl rfl ?_
      refine zk_getr (pc := 36) B kx_11 (gSys_s hG) 14 (by decide) kf_11_95 rfl (gSys_f14 hG) dX11_load_36 ?_
      refine zk_cvm (pc := 39) (k' := 0) (n' := 0) B rfl rfl (Nat.le_of_ble_eq_true rfl) (Nat.le_of_ble_eq_true rfl) (fun b hb => zr_V B hR kV_yX7_readText km_11_127 kx_7 (gTextReader_s hG) [] rfl rfl (Nat.le_of_ble_eq_true rfl) dX11_load_39 (m_TextReader_readText hX hG M2 b hb) ⟨Nat.le_of_ble_eq_true rfl, Nat.le_of_ble_eq_true rfl⟩ ⟨Nat.le_of_ble_eq_true rfl, Nat.le_of_ble_eq_true rfl⟩) (fun M3 => ?_)
      refine zk_aload_n (pc := 42) B dX11_load_42 0 rfl rfl ?_
      refine zk_aload_n (pc := 43) B dX11_load_43 0 rfl rfl ?_
      refine zk_getr (pc := 44) B kx_11 (gSys_s hG) 13 (by decide) kf_11_86 rfl (gSys_f13 hG) dX11_load_44 ?_
      refine zk_geti (pc := 47) B kx_8 (gTokens_s hG) 1 (by decide) kf_11_130 rfl dX11_load_47 ?_
      refine zk_puti (pc := 50) B kx_11 (gSys_s hG) 2 (by decide) kf_11_17 rfl rfl rfl rfl dX11_load_50 ?_
      refine zk_lm (fun M4 => ?_)
      refine zk_aload_n (pc := 53) B dX11_load_53 0 rfl rfl ?_
      refine zk_getr (pc := 54) B kx_11 (gSys_s hG) 13 (by decide) kf_11_86 rfl (gSys_f13 hG) dX11_load_54 ?_
      refine zk_geti (pc := 57) B kx_8 (gTokens_s hG) 0 (by decide) kf_11_131 rfl dX11_load_57 ?_
      refine zk_if_eq (tgt := 74) (pc := 60) B dX11_load_60 (by decide) (fun _ => ?_) (fun _ => ?_)
      · refine zk_aload_n (pc := 74) B dX11_load_74 0 rfl rfl ?_
        refine zk_getr (pc := 75) B kx_11 (gSys_s hG) 5 (by decide) kf_11_29 rfl (gSys_f5 hG) dX11_load_75 ?_
        refine zk_aload_n (pc := 78) B dX11_load_78 0 rfl rfl ?_
        refine zk_getr (pc := 79) B kx_11 (gSys_s hG) 14 (by decide) kf_11_95 rfl (gSys_f14 hG) dX11_load_79 ?_
        refine zk_getr (pc := 82) B kx_7 (gTextReader_s hG) 0 (by decide) kf_11_134 rfl (gTextReader_f0 hG) dX11_load_82 ?_
        refine zk_cvm (pc := 85) (k' := 0) (n' := 0) B rfl rfl (Nat.le_of_ble_eq_true rfl) (Nat.le_of_ble_eq_true rfl) (fun b hb => zr_V B hR kV_yX9_copyFrom km_11_135 kx_9 (gTown_s (gSys_t5 hG)) [.ref (o + 505)] rfl rfl (Nat.le_of_ble_eq_true rfl) dX11_load_85 (m_Town_copyFrom hX (gSys_t5 hG) (gTextReader_t0 hG) M4 b hb) ⟨Nat.le_of_ble_eq_true rfl, Nat.le_of_ble_eq_true rfl⟩ ⟨Nat.le_of_ble_eq_true rfl, Nat.le_of_ble_eq_true rfl⟩) (fun M5 => ?_)
        refine zk_aload_n (pc := 88) B dX11_load_88 0 rfl rfl ?_
        refine zk_getr (pc := 89) B kx_11 (gSys_s hG) 6 (by decide) kf_11_36 rfl (gSys_f6 hG) dX11_load_89 ?_
        refine zk_aload_n (pc := 92) B dX11_load_92 0 rfl rfl ?_
        refine zk_getr (pc := 93) B kx_11 (gSys_s hG) 14 (by decide) kf_11_95 rfl (gSys_f14 hG) dX11_load_93 ?_
        refine zk_getr (pc := 96) B kx_7 (gTextReader_s hG) 1 (by decide) kf_11_139 rfl (gTextReader_f1 hG) dX11_load_96 ?_
        refine zk_cvm (pc := 99) (k' := 0) (n' := 0) B rfl rfl (Nat.le_of_ble_eq_true rfl) (Nat.le_of_ble_eq_true rfl) (fun b hb => zr_V B hR kV_yX0_copyFrom km_11_140 kx_0 (gDesk_s (gSys_t6 hG)) [.ref (o + 507)] rfl rfl (Nat.le_of_ble_eq_true rfl) dX11_load_99 (m_Desk_copyFrom hX (gSys_t6 hG) (gTextReader_t1 hG) M5 b hb) ⟨Nat.le_of_ble_eq_true rfl, Nat.le_of_ble_eq_true rfl⟩ ⟨Nat.le_of_ble_eq_true rfl, Nat.le_of_ble_eq_true rfl⟩) (fun M6 => ?_)
        refine zk_aload_n (pc := 102) B dX11_load_102 0 rfl rfl ?_
        refine zk_getr (pc := 103) B kx_11 (gSys_s hG) 7 (by decide) kf_11_43 rfl (gSys_f7 hG) dX11_load_103 ?_
        refine zk_cvm (pc := 106) (k' := 0) (n' := 0) B rfl rfl (Nat.le_of_ble_eq_true rfl) (Nat.le_of_ble_eq_true rfl) (fun b hb => zr_V B hR kV_yX1_clear km_11_143 kx_1 (gHistory_s hG) [] rfl rfl (Nat.le_of_ble_eq_true rfl) dX11_load_106 (m_History_clear hX hG M6 b hb) ⟨Nat.le_of_ble_eq_true rfl, Nat.le_of_ble_eq_true rfl⟩ ⟨Nat.le_of_ble_eq_true rfl, Nat.le_of_ble_eq_true rfl⟩) (fun M7 => ?_)
        refine zk_aload_n (pc := 109) B dX11_load_109 0 rfl rfl ?_
        refine zk_iconst (v := 0) (pc := 110) B dX11_load_110 (by decide) ?_
        refine zk_puti (pc := 111) B kx_11 (gSys_s hG) 9 (by decide) kf_11_50 rfl rfl rfl rfl dX11_load_111 ?_
        refine zk_lm (fun M8 => ?_)
        refine zk_aload_n (pc := 114) B dX11_load_114 0 rfl rfl ?_
        refine zk_getr (pc := 115) B kx_11 (gSys_s hG) 6 (by decide) kf_11_36 rfl (gSys_f6 hG) dX11_load_115 ?_
        refine zk_geti (pc := 118) B kx_0 (gDesk_s (gSys_t6 hG)) 3 (by decide) kf_11_144 rfl dX11_load_118 ?_
        exact zk_iret (pc := 121) B dX11_load_121 rfl rfl (Nat.le_of_ble_eq_true rfl) (Nat.le_of_ble_eq_true rfl) rfl
      · refine zk_bipush (v := (-10)) (pc := 63) B dX11_load_63 (by decide) ?_
        refine zk_aload_n (pc := 65) B dX11_load_65 0 rfl rfl ?_
        refine zk_getr (pc := 66) B kx_11 (gSys_s hG) 13 (by decide) kf_11_86 rfl (gSys_f13 hG) dX11_load_66 ?_
        refine zk_geti (pc := 69) B kx_8 (gTokens_s hG) 0 (by decide) kf_11_131 rfl dX11_load_69 ?_
        refine zk_isub (pc := 72) B dX11_load_72 ?_
        exact zk_iret (pc := 73) B dX11_load_73 rfl rfl (Nat.le_of_ble_eq_true rfl) (Nat.le_of_ble_eq_true rfl) rfl
    · refine zk_sub [] rfl ?_
      exact J12 M
set_option maxHeartbeats 4000000 in
set_option maxRecDepth 100000 in
theorem m_Sys_errorPosition {X : z_X} (hX : z_ok X) {G : z_Gr} {o : Nat} (hG : g_Sys G o) (M : z_Mem) (b : Int32) (h : F_Sys_errorPosition o M = some b) : z_Ct X yX11_errorPosition cX11_errorPosition 1 (some .int) ({ frames := 0, cells := 0, slots := 0, locals := 0 } : Room) [.ref o] G M (fun o9 G9 M9 => G9 = G ∧ (o9, M9) = (z_ci M) b) := by
  refine z_enter hX (by decide) (Nat.le_of_ble_eq_true rfl) h (fun F B hR => ?_)
  show z_K X F 1 0 0 G (z_ci M) b 0 0 0 [(0, .ref o)] [] M (F_Sys_errorPosition o M)
  unfold F_Sys_errorPosition
  refine zk_aload_n (pc := 0) B dX11_errorPosition_0 0 rfl rfl ?_
  refine zk_geti (pc := 1) B kx_11 (gSys_s hG) 2 (by decide) kf_11_17 rfl dX11_errorPosition_1 ?_
  exact zk_iret (pc := 4) B dX11_errorPosition_4 rfl rfl (Nat.le_of_ble_eq_true rfl) (Nat.le_of_ble_eq_true rfl) rfl
set_option maxHeartbeats 4000000 in
set_option maxRecDepth 100000 in
theorem m_Sys_existingTaxi {X : z_X} (hX : z_ok X) {G : z_Gr} {o : Nat} (hG : g_Sys G o) (p0 : Int32) (M : z_Mem) (b : Except Nat Nat) (h : F_Sys_existingTaxi o p0 M = some b) : z_Ct X yX11_existingTaxi cX11_existingTaxi 2 (some (.object "SharedTaxis$Taxi")) ({ frames := 6, cells := 1, slots := 6, locals := 100 } : Room) [.ref o, .int p0] G M (fun o9 G9 M9 => G9 = G ∧ (o9, M9) = (z_xr M) b) := by
  refine z_enter hX (by decide) (Nat.le_of_ble_eq_true rfl) h (fun F B hR => ?_)
  show z_K X F 2 1 6 G (z_xr M) b 0 0 0 [(0, .ref o), (1, .int p0)] [] M (F_Sys_existingTaxi o p0 M)
  unfold F_Sys_existingTaxi
  refine zk_aload_n (pc := 0) B dX11_existingTaxi_0 0 rfl rfl ?_
  refine zk_getr (pc := 1) B kx_11 (gSys_s hG) 6 (by decide) kf_11_36 rfl (gSys_f6 hG) dX11_existingTaxi_1 ?_
  refine zk_iload_n (pc := 4) B dX11_existingTaxi_4 1 rfl rfl ?_
  refine zk_cpi (pc := 5) (k' := 0) (n' := 0) B rfl rfl (Nat.le_of_ble_eq_true rfl) (Nat.le_of_ble_eq_true rfl) (fun b hb => zr_V B hR kV_yX0_hasTaxi km_11_363 kx_0 (gDesk_s (gSys_t6 hG)) [.int p0] rfl rfl (Nat.le_of_ble_eq_true rfl) dX11_existingTaxi_5 (m_Desk_hasTaxi hX (gSys_t6 hG) p0 M b hb) ⟨Nat.le_of_ble_eq_true rfl, Nat.le_of_ble_eq_true rfl⟩ ⟨Nat.le_of_ble_eq_true rfl, Nat.le_of_ble_eq_true rfl⟩) (fun x1 _ => ?_)
  refine zk_if_ne (tgt := 22) (pc := 8) B dX11_existingTaxi_8 (by decide) (fun _ => ?_) (fun _ => ?_)
  · refine zk_aload_n (pc := 22) B dX11_existingTaxi_22 0 rfl rfl ?_
    refine zk_getr (pc := 23) B kx_11 (gSys_s hG) 6 (by decide) kf_11_36 rfl (gSys_f6 hG) dX11_existingTaxi_23 ?_
    refine zk_getr (pc := 26) B kx_0 (gDesk_s (gSys_t6 hG)) 6 (by decide) kf_11_366 rfl (gDesk_f6 (gSys_t6 hG)) dX11_existingTaxi_26 ?_
    refine zk_iload_n (pc := 29) B dX11_existingTaxi_29 1 rfl rfl ?_
    refine zk_aald (pc := 30) B (gDesk_t6 (gSys_t6 hG)) (by decide) (by decide) (fun h3 => gDesk_e6 (gSys_t6 hG) _ (z_lt h3)) dX11_existingTaxi_30 (fun h3 => zk_lr (fun t2 h3e => ?_))
    have ht2 : g_Taxi G t2 := by rw [h3e]; exact gDesk_k6 (gSys_t6 hG) _ (z_lt h3)
    exact zk_aret (pc := 31) B dX11_existingTaxi_31 rfl (Nat.le_of_ble_eq_true rfl) (Nat.le_of_ble_eq_true rfl) rfl
  · exact zk_throw1w (pc := 11) B hR 205 464 (text := "no such taxi") kk_11_205 ki_e1 (by decide +kernel) dX11_existingTaxi_11 dX11_existingTaxi_14 dX11_existingTaxi_15 dX11_existingTaxi_18 dX11_existingTaxi_21 (Nat.le_of_ble_eq_true rfl) (Nat.le_of_ble_eq_true rfl) (Nat.le_of_ble_eq_true rfl) (Nat.le_of_ble_eq_true rfl) (Nat.le_of_ble_eq_true rfl) (Nat.le_of_ble_eq_true rfl) rfl
set_option maxHeartbeats 4000000 in
set_option maxRecDepth 100000 in
theorem m_Sys_appendFormatted {X : z_X} (hX : z_ok X) {G : z_Gr} {o : Nat} (hG : g_Sys G o) (p0 : Int32) (M : z_Mem) (b : z_Mem) (h : F_Sys_appendFormatted o p0 M = some b) : z_Ct X yX11_appendFormatted cX11_appendFormatted 2 none ({ frames := 0, cells := 0, slots := 0, locals := 0 } : Room) [.ref o, .int p0] G M (fun o9 G9 M9 => G9 = G ∧ (o9, M9) = z_cvm b) := by
  refine z_enter hX (by decide) (Nat.le_of_ble_eq_true rfl) h (fun F B hR => ?_)
  show z_K X F 2 0 0 G z_cvm b 0 0 0 [(0, .ref o), (1, .int p0)] [] M (F_Sys_appendFormatted o p0 M)
  unfold F_Sys_appendFormatted
  refine zk_aload_n (pc := 0) B dX11_appendFormatted_0 0 rfl rfl ?_
  refine zk_geti (pc := 1) B kx_11 (gSys_s hG) 4 (by decide) kf_11_23 rfl dX11_appendFormatted_1 ?_
  refine zk_if_lt (tgt := 40) (pc := 4) B dX11_appendFormatted_4 (by decide) (fun _ => ?_) (fun _ => ?_)
  · exact zk_vret (pc := 40) B dX11_appendFormatted_40 rfl (Nat.le_of_ble_eq_true rfl) (Nat.le_of_ble_eq_true rfl) rfl
  · refine zk_aload_n (pc := 7) B dX11_appendFormatted_7 0 rfl rfl ?_
    refine zk_geti (pc := 8) B kx_11 (gSys_s hG) 4 (by decide) kf_11_23 rfl dX11_appendFormatted_8 ?_
    refine zk_aload_n (pc := 11) B dX11_appendFormatted_11 0 rfl rfl ?_
    refine zk_getr (pc := 12) B kx_11 (gSys_s hG) 3 (by decide) kf_11_20 rfl (gSys_f3 hG) dX11_appendFormatted_12 ?_
    refine zk_alen (v := 80) (pc := 15) B (gSys_t3 hG) (by decide) (by decide) dX11_appendFormatted_15 ?_
    refine zk_icmp_ge (tgt := 40) (pc := 16) B dX11_appendFormatted_16 (by decide) (fun _ => ?_) (fun _ => ?_)
    · exact zk_vret (pc := 40) B dX11_appendFormatted_40 rfl (Nat.le_of_ble_eq_true rfl) (Nat.le_of_ble_eq_true rfl) rfl
    · refine zk_aload_n (pc := 19) B dX11_appendFormatted_19 0 rfl rfl ?_
      refine zk_getr (pc := 20) B kx_11 (gSys_s hG) 3 (by decide) kf_11_20 rfl (gSys_f3 hG) dX11_appendFormatted_20 ?_
      refine zk_aload_n (pc := 23) B dX11_appendFormatted_23 0 rfl rfl ?_
      refine zk_geti (pc := 24) B kx_11 (gSys_s hG) 4 (by decide) kf_11_23 rfl dX11_appendFormatted_24 ?_
      refine zk_iload_n (pc := 27) B dX11_appendFormatted_27 1 rfl rfl ?_
      refine zk_i2b (pc := 28) B dX11_appendFormatted_28 ?_
      refine zk_bast (pc := 29) B (gSys_t3 hG) dX11_appendFormatted_29 ?_
      refine zk_lm (fun M1 => ?_)
      refine zk_aload_n (pc := 30) B dX11_appendFormatted_30 0 rfl rfl ?_
      refine zk_dup (pc := 31) B dX11_appendFormatted_31 rfl ?_
      refine zk_geti (pc := 32) B kx_11 (gSys_s hG) 4 (by decide) kf_11_23 rfl dX11_appendFormatted_32 ?_
      refine zk_iconst (v := 1) (pc := 35) B dX11_appendFormatted_35 (by decide) ?_
      refine zk_iadd (pc := 36) B dX11_appendFormatted_36 ?_
      refine zk_puti (pc := 37) B kx_11 (gSys_s hG) 4 (by decide) kf_11_23 rfl rfl rfl rfl dX11_appendFormatted_37 ?_
      refine zk_lm (fun M2 => ?_)
      exact zk_vret (pc := 40) B dX11_appendFormatted_40 rfl (Nat.le_of_ble_eq_true rfl) (Nat.le_of_ble_eq_true rfl) rfl
set_option maxHeartbeats 4000000 in
set_option maxRecDepth 100000 in
theorem m_Sys_appendStop {X : z_X} (hX : z_ok X) {G : z_Gr} {o : Nat} (hG : g_Sys G o) (p0 : Int32) (M : z_Mem) (b : z_Mem) (h : F_Sys_appendStop o p0 M = some b) : z_Ct X yX11_appendStop cX11_appendStop 3 none ({ frames := 2, cells := 0, slots := 0, locals := 43 } : Room) [.ref o, .int p0] G M (fun o9 G9 M9 => G9 = G ∧ (o9, M9) = z_cvm b) := by
  refine z_enter hX (by decide) (Nat.le_of_ble_eq_true rfl) h (fun F B hR => ?_)
  have J40 : ∀ (v1 : Int32) (v2 : Int32) (M : z_Mem), z_K X F 3 0 0 G z_cvm b 0 0 40 [(0, .ref o), (1, .int v1), (2, .int v2)] [] M (F_Sys_appendStop_J40 o v1 v2 M) := by
    intro v1 v2 M
    unfold F_Sys_appendStop_J40
    refine zk_aload_n (pc := 40) B dX11_appendStop_40 0 rfl rfl ?_
    refine zk_bipush (v := 48) (pc := 41) B dX11_appendStop_41 (by decide) ?_
    refine zk_iload_n (pc := 43) B dX11_appendStop_43 2 rfl rfl ?_
    refine zk_bipush (v := 10) (pc := 44) B dX11_appendStop_44 (by decide) ?_
    refine zk_irem (pc := 46) B dX11_appendStop_46 (by decide) ?_
    refine zk_iadd (pc := 47) B dX11_appendStop_47 ?_
    refine zk_cvm (pc := 48) (k' := 0) (n' := 0) B rfl rfl (Nat.le_of_ble_eq_true rfl) (Nat.le_of_ble_eq_true rfl) (fun b hb => zr_V B hR kV_yX11_appendFormatted km_11_161 kx_11 (gSys_s hG) [.int (48 + (v2 - v2 / 10 * 10))] rfl rfl (Nat.le_of_ble_eq_true rfl) dX11_appendStop_48 (m_Sys_appendFormatted hX hG (48 + (v2 - v2 / 10 * 10)) M b hb) ⟨Nat.le_of_ble_eq_true rfl, Nat.le_of_ble_eq_true rfl⟩ ⟨Nat.le_of_ble_eq_true rfl, Nat.le_of_ble_eq_true rfl⟩) (fun M5 => ?_)
    refine zk_aload_n (pc := 51) B dX11_appendStop_51 0 rfl rfl ?_
    refine zk_bipush (v := 64) (pc := 52) B dX11_appendStop_52 (by decide) ?_
    refine zk_cvm (pc := 54) (k' := 0) (n' := 0) B rfl rfl (Nat.le_of_ble_eq_true rfl) (Nat.le_of_ble_eq_true rfl) (fun b hb => zr_V B hR kV_yX11_appendFormatted km_11_161 kx_11 (gSys_s hG) [.int 64] rfl rfl (Nat.le_of_ble_eq_true rfl) dX11_appendStop_54 (m_Sys_appendFormatted hX hG 64 M5 b hb) ⟨Nat.le_of_ble_eq_true rfl, Nat.le_of_ble_eq_true rfl⟩ ⟨Nat.le_of_ble_eq_true rfl, Nat.le_of_ble_eq_true rfl⟩) (fun M6 => ?_)
    refine zk_aload_n (pc := 57) B dX11_appendStop_57 0 rfl rfl ?_
    refine zk_bipush (v := 48) (pc := 58) B dX11_appendStop_58 (by decide) ?_
    refine zk_aload_n (pc := 60) B dX11_appendStop_60 0 rfl rfl ?_
    refine zk_getr (pc := 61) B kx_11 (gSys_s hG) 6 (by decide) kf_11_36 rfl (gSys_f6 hG) dX11_appendStop_61 ?_
    refine zk_iload_n (pc := 64) B dX11_appendStop_64 1 rfl rfl ?_
    refine zk_cpi (pc := 65) (k' := 0) (n' := 0) B rfl rfl (Nat.le_of_ble_eq_true rfl) (Nat.le_of_ble_eq_true rfl) (fun b hb => zr_V B hR kV_yX0_zoneOfStop km_11_178 kx_0 (gDesk_s (gSys_t6 hG)) [.int v1] rfl rfl (Nat.le_of_ble_eq_true rfl) dX11_appendStop_65 (m_Desk_zoneOfStop hX (gSys_t6 hG) v1 M6 b hb) ⟨Nat.le_of_ble_eq_true rfl, Nat.le_of_ble_eq_true rfl⟩ ⟨Nat.le_of_ble_eq_true rfl, Nat.le_of_ble_eq_true rfl⟩) (fun x7 _ => ?_)
    refine zk_iadd (pc := 68) B dX11_appendStop_68 ?_
    refine zk_cvm (pc := 69) (k' := 0) (n' := 0) B rfl rfl (Nat.le_of_ble_eq_true rfl) (Nat.le_of_ble_eq_true rfl) (fun b hb => zr_V B hR kV_yX11_appendFormatted km_11_161 kx_11 (gSys_s hG) [.int (48 + x7)] rfl rfl (Nat.le_of_ble_eq_true rfl) dX11_appendStop_69 (m_Sys_appendFormatted hX hG (48 + x7) M6 b hb) ⟨Nat.le_of_ble_eq_true rfl, Nat.le_of_ble_eq_true rfl⟩ ⟨Nat.le_of_ble_eq_true rfl, Nat.le_of_ble_eq_true rfl⟩) (fun M8 => ?_)
    exact zk_vret (pc := 72) B dX11_appendStop_72 rfl (Nat.le_of_ble_eq_true rfl) (Nat.le_of_ble_eq_true rfl) rfl
  have J20 : ∀ (v1 : Int32) (v2 : Int32) (s0 : Int32) (M : z_Mem), z_K X F 3 0 0 G z_cvm b 0 0 20 [(0, .ref o), (1, .int v1), (2, .int v2)] [.int s0, .ref o] M (F_Sys_appendStop_J20 o v1 v2 s0 M) := by
    intro v1 v2 s0 M
    unfold F_Sys_appendStop_J20
    refine zk_cvm (pc := 20) (k' := 0) (n' := 0) B rfl rfl (Nat.le_of_ble_eq_true rfl) (Nat.le_of_ble_eq_true rfl) (fun b hb => zr_V B hR kV_yX11_appendFormatted km_11_161 kx_11 (gSys_s hG) [.int s0] rfl rfl (Nat.le_of_ble_eq_true rfl) dX11_appendStop_20 (m_Sys_appendFormatted hX hG s0 M b hb) ⟨Nat.le_of_ble_eq_true rfl, Nat.le_of_ble_eq_true rfl⟩ ⟨Nat.le_of_ble_eq_true rfl, Nat.le_of_ble_eq_true rfl⟩) (fun M3 => ?_)
    refine zk_iload_n (pc := 23) B dX11_appendStop_23 2 rfl rfl ?_
    refine zk_bipush (v := 10) (pc := 24) B dX11_appendStop_24 (by decide) ?_
    refine zk_icmp_lt (tgt := 40) (pc := 26) B dX11_appendStop_26 (by decide) (fun _ => ?_) (fun _ => ?_)
    · exact J40 v1 v2 M3
    · refine zk_aload_n (pc := 29) B dX11_appendStop_29 0 rfl rfl ?_
      refine zk_bipush (v := 48) (pc := 30) B dX11_appendStop_30 (by decide) ?_
      refine zk_iload_n (pc := 32) B dX11_appendStop_32 2 rfl rfl ?_
      refine zk_bipush (v := 10) (pc := 33) B dX11_appendStop_33 (by decide) ?_
      refine zk_idiv (pc := 35) B dX11_appendStop_35 (by decide) ?_
      refine zk_iadd (pc := 36) B dX11_appendStop_36 ?_
      refine zk_cvm (pc := 37) (k' := 0) (n' := 0) B rfl rfl (Nat.le_of_ble_eq_true rfl) (Nat.le_of_ble_eq_true rfl) (fun b hb => zr_V B hR kV_yX11_appendFormatted km_11_161 kx_11 (gSys_s hG) [.int (48 + (v2 / 10))] rfl rfl (Nat.le_of_ble_eq_true rfl) dX11_appendStop_37 (m_Sys_appendFormatted hX hG (48 + (v2 / 10)) M3 b hb) ⟨Nat.le_of_ble_eq_true rfl, Nat.le_of_ble_eq_true rfl⟩ ⟨Nat.le_of_ble_eq_true rfl, Nat.le_of_ble_eq_true rfl⟩) (fun M4 => ?_)
      exact J40 v1 v2 M4
  show z_K X F 3 0 0 G z_cvm b 0 0 0 [(0, .ref o), (1, .int p0)] [] M (F_Sys_appendStop o p0 M)
  unfold F_Sys_appendStop
  refine zk_iload_n (pc := 0) B dX11_appendStop_0 1 rfl rfl ?_
  refine zk_cpi (pc := 1) (k' := 0) (n' := 0) B rfl rfl (Nat.le_of_ble_eq_true rfl) (Nat.le_of_ble_eq_true rfl) (fun b hb => zr_S B hR kS_yX0_rideNumber km_11_171 [.int p0] rfl rfl (Nat.le_of_ble_eq_true rfl) dX11_appendStop_1 (m_Desk_rideNumber hX p0 M b hb) ⟨Nat.le_of_ble_eq_true rfl, Nat.le_of_ble_eq_true rfl⟩ ⟨Nat.le_of_ble_eq_true rfl, Nat.le_of_ble_eq_true rfl⟩) (fun x1 _ => ?_)
  refine zk_istore_n (loc' := [(2, .int x1), (0, .ref o), (1, .int p0)]) (pc := 4) B dX11_appendStop_4 rfl (by decide) rfl ?_
  refine zk_aload_n (pc := 5) B dX11_appendStop_5 1 rfl rfl ?_
  refine zk_iload_n (pc := 6) B dX11_appendStop_6 2 rfl rfl ?_
  refine zk_cpi (pc := 7) (k' := 0) (n' := 0) B rfl rfl (Nat.le_of_ble_eq_true rfl) (Nat.le_of_ble_eq_true rfl) (fun b hb => zr_S B hR kS_yX0_isPickup km_11_174 [.int p0] rfl rfl (Nat.le_of_ble_eq_true rfl) dX11_appendStop_7 (m_Desk_isPickup hX p0 M b hb) ⟨Nat.le_of_ble_eq_true rfl, Nat.le_of_ble_eq_true rfl⟩ ⟨Nat.le_of_ble_eq_true rfl, Nat.le_of_ble_eq_true rfl⟩) (fun x2 _ => ?_)
  refine zk_if_eq (tgt := 18) (pc := 10) B dX11_appendStop_10 (by decide) (fun _ => ?_) (fun _ => ?_)
  · refine zk_bipush (v := 45) (pc := 18) B dX11_appendStop_18 (by decide) ?_
    refine zk_sub [1, 2, 0] rfl ?_
    exact J20 p0 x1 45 M
  · refine zk_bipush (v := 43) (pc := 13) B dX11_appendStop_13 (by decide) ?_
    refine zk_goto (tgt := 20) (pc := 15) B dX11_appendStop_15 (by decide) ?_
    refine zk_sub [1, 2, 0] rfl ?_
    exact J20 p0 x1 43 M
set_option maxHeartbeats 4000000 in
set_option maxRecDepth 100000 in
theorem m_Sys_format {X : z_X} (hX : z_ok X) {G : z_Gr} {o : Nat} (hG : g_Sys G o) (p0 : Int32) (M : z_Mem) (b : Except Nat Int32 × z_Mem) (h : F_Sys_format o p0 M = some b) : z_Ct X yX11_format cX11_format 4 (some .int) ({ frames := 7, cells := 1, slots := 6, locals := 121 } : Room) [.ref o, .int p0] G M (fun o9 G9 M9 => G9 = G ∧ (o9, M9) = z_xim b) := by
  refine z_enter hX (by decide) (Nat.le_of_ble_eq_true rfl) h (fun F B hR => ?_)
  have J59 : ∀  (M : z_Mem), z_K X F 4 1 6 G z_xim b 1 6 59 [(0, .ref o)] [] M (F_Sys_format_J59 o M) := by
    intro  M
    unfold F_Sys_format_J59
    refine zk_aload_n (pc := 59) B dX11_format_59 0 rfl rfl ?_
    refine zk_geti (pc := 60) B kx_11 (gSys_s hG) 4 (by decide) kf_11_23 rfl dX11_format_60 ?_
    exact zk_iret (pc := 63) B dX11_format_63 rfl rfl (Nat.le_of_ble_eq_true rfl) (Nat.le_of_ble_eq_true rfl) rfl
  have L13 : ∀ (nf13 : Nat), ∀ (u2 : Nat) (hu2 : g_Taxi G u2) (v3 : Int32) (M : z_Mem), z_K X F 4 1 6 G z_xim b 1 6 13 [(0, .ref o), (2, .ref u2), (3, .int v3)] [] M (F_Sys_format_L13 o nf13 u2 v3 M) := by
    intro nf13
    induction nf13 with
    | zero => intro u2 hu2 v3 M; exact zk_none
    | succ nf13 ih13 =>
      have J31 : ∀ (u2 : Nat) (hu2 : g_Taxi G u2) (v3 : Int32) (M : z_Mem), z_K X F 4 1 6 G z_xim b 1 6 31 [(0, .ref o), (2, .ref u2), (3, .int v3)] [] M (F_Sys_format_J31 o (F_Sys_format_L13 o nf13) u2 v3 M) := by
        intro u2 hu2 v3 M
        unfold F_Sys_format_J31
        refine zk_aload_n (pc := 31) B dX11_format_31 0 rfl rfl ?_
        refine zk_aload_n (pc := 32) B dX11_format_32 1 rfl rfl ?_
        refine zk_iload_n (pc := 33) B dX11_format_33 2 rfl rfl ?_
        refine zk_cpi (pc := 34) (k' := 1) (n' := 6) B rfl rfl (Nat.le_of_ble_eq_true rfl) (Nat.le_of_ble_eq_true rfl) (fun b hb => zr_V B hR kV_yX6_stopAt km_11_164 kx_6 (gTaxi_s hu2) [.int v3] rfl rfl (Nat.le_of_ble_eq_true rfl) dX11_format_34 (m_Taxi_stopAt hX hu2 v3 M b hb) ⟨Nat.le_of_ble_eq_true rfl, Nat.le_of_ble_eq_true rfl⟩ ⟨Nat.le_of_ble_eq_true rfl, Nat.le_of_ble_eq_true rfl⟩) (fun x6 _ => ?_)
        refine zk_cvm (pc := 37) (k' := 1) (n' := 6) B rfl rfl (Nat.le_of_ble_eq_true rfl) (Nat.le_of_ble_eq_true rfl) (fun b hb => zr_V B hR kV_yX11_appendStop km_11_168 kx_11 (gSys_s hG) [.int x6] rfl rfl (Nat.le_of_ble_eq_true rfl) dX11_format_37 (m_Sys_appendStop hX hG x6 M b hb) ⟨Nat.le_of_ble_eq_true rfl, Nat.le_of_ble_eq_true rfl⟩ ⟨Nat.le_of_ble_eq_true rfl, Nat.le_of_ble_eq_true rfl⟩) (fun M7 => ?_)
        refine zk_iinc (y := 1) (lf := fun x8 => [(3, .int x8), (0, .ref o), (2, .ref u2)]) (pc := 40) B dX11_format_40 2 rfl (by decide) (by decide) (fun _ => rfl) (fun x8 => ?_)
        refine zk_goto (tgt := 13) (pc := 43) B dX11_format_43 (by decide) ?_
        refine zk_sub [1, 2, 0] rfl ?_
        exact ih13 u2 hu2 x8 M7
      intro u2 hu2 v3 M
      show z_K X F 4 1 6 G z_xim b 1 6 13 [(0, .ref o), (2, .ref u2), (3, .int v3)] [] M (F_Sys_format_B13 o (F_Sys_format_L13 o nf13) u2 v3 M)
      unfold F_Sys_format_B13
      refine zk_iload_n (pc := 13) B dX11_format_13 2 rfl rfl ?_
      refine zk_aload_n (pc := 14) B dX11_format_14 1 rfl rfl ?_
      refine zk_geti (pc := 15) B kx_6 (gTaxi_s hu2) 7 (by decide) kf_11_156 rfl dX11_format_15 ?_
      refine zk_icmp_ge (tgt := 46) (pc := 18) B dX11_format_18 (by decide) (fun _ => ?_) (fun _ => ?_)
      · refine zk_aload_n (pc := 46) B dX11_format_46 1 rfl rfl ?_
        refine zk_geti (pc := 47) B kx_6 (gTaxi_s hu2) 7 (by decide) kf_11_156 rfl dX11_format_47 ?_
        refine zk_if_ne (tgt := 59) (pc := 50) B dX11_format_50 (by decide) (fun _ => ?_) (fun _ => ?_)
        · refine zk_sub [0] rfl ?_
          exact J59 M
        · refine zk_aload_n (pc := 53) B dX11_format_53 0 rfl rfl ?_
          refine zk_bipush (v := 46) (pc := 54) B dX11_format_54 (by decide) ?_
          refine zk_cvm (pc := 56) (k' := 1) (n' := 6) B rfl rfl (Nat.le_of_ble_eq_true rfl) (Nat.le_of_ble_eq_true rfl) (fun b hb => zr_V B hR kV_yX11_appendFormatted km_11_161 kx_11 (gSys_s hG) [.int 46] rfl rfl (Nat.le_of_ble_eq_true rfl) dX11_format_56 (m_Sys_appendFormatted hX hG 46 M b hb) ⟨Nat.le_of_ble_eq_true rfl, Nat.le_of_ble_eq_true rfl⟩ ⟨Nat.le_of_ble_eq_true rfl, Nat.le_of_ble_eq_true rfl⟩) (fun M4 => ?_)
          refine zk_sub [0] rfl ?_
          exact J59 M4
      · refine zk_iload_n (pc := 21) B dX11_format_21 2 rfl rfl ?_
        refine zk_if_le (tgt := 31) (pc := 22) B dX11_format_22 (by decide) (fun _ => ?_) (fun _ => ?_)
        · exact J31 u2 hu2 v3 M
        · refine zk_aload_n (pc := 25) B dX11_format_25 0 rfl rfl ?_
          refine zk_bipush (v := 32) (pc := 26) B dX11_format_26 (by decide) ?_
          refine zk_cvm (pc := 28) (k' := 1) (n' := 6) B rfl rfl (Nat.le_of_ble_eq_true rfl) (Nat.le_of_ble_eq_true rfl) (fun b hb => zr_V B hR kV_yX11_appendFormatted km_11_161 kx_11 (gSys_s hG) [.int 32] rfl rfl (Nat.le_of_ble_eq_true rfl) dX11_format_28 (m_Sys_appendFormatted hX hG 32 M b hb) ⟨Nat.le_of_ble_eq_true rfl, Nat.le_of_ble_eq_true rfl⟩ ⟨Nat.le_of_ble_eq_true rfl, Nat.le_of_ble_eq_true rfl⟩) (fun M5 => ?_)
          exact J31 u2 hu2 v3 M5
  show z_K X F 4 1 6 G z_xim b 0 0 0 [(0, .ref o), (1, .int p0)] [] M (F_Sys_format o p0 M)
  unfold F_Sys_format
  refine zk_aload_n (pc := 0) B dX11_format_0 0 rfl rfl ?_
  refine zk_iload_n (pc := 1) B dX11_format_1 1 rfl rfl ?_
  refine zk_cxm (pc := 2) (k' := 1) (n' := 6) B (by decide) rfl rfl (Nat.le_of_ble_eq_true rfl) (Nat.le_of_ble_eq_true rfl) (fun _ => rfl) (fun a => [Value.ref a]) z_xr_1 z_xr_2 z_xr_3 (fun b hb => zr_V B hR kV_yX11_existingTaxi km_11_152 kx_11 (gSys_s hG) [.int p0] rfl rfl (Nat.le_of_ble_eq_true rfl) dX11_format_2 (m_Sys_existingTaxi hX hG p0 M b hb) ⟨Nat.le_of_ble_eq_true rfl, Nat.le_of_ble_eq_true rfl⟩ ⟨Nat.le_of_ble_eq_true rfl, Nat.le_of_ble_eq_true rfl⟩) (fun t1 h2 => ?_)
  have ht1 : g_Taxi G t1 := fr_Sys_existingTaxi hG h2
  refine zk_astore_n (loc' := [(2, .ref t1), (0, .ref o), (1, .int p0)]) (pc := 5) B dX11_format_5 rfl (by decide) rfl ?_
  refine zk_aload_n (pc := 6) B dX11_format_6 1 rfl rfl ?_
  refine zk_iconst (v := 0) (pc := 7) B dX11_format_7 (by decide) ?_
  refine zk_puti (pc := 8) B kx_11 (gSys_s hG) 4 (by decide) kf_11_23 rfl rfl rfl rfl dX11_format_8 ?_
  refine zk_lm (fun M3 => ?_)
  refine zk_iconst (v := 0) (pc := 11) B dX11_format_11 (by decide) ?_
  refine zk_istore_n (loc' := [(3, .int 0), (2, .ref t1), (0, .ref o), (1, .int p0)]) (pc := 12) B dX11_format_12 rfl (by decide) rfl ?_
  refine zk_sub [2, 1, 0] rfl ?_
  exact L13 10000 t1 ht1 0 M3
set_option maxHeartbeats 4000000 in
set_option maxRecDepth 100000 in
theorem m_Sys_formattedByte {X : z_X} (hX : z_ok X) {G : z_Gr} {o : Nat} (hG : g_Sys G o) (p0 : Int32) (M : z_Mem) (b : Int32) (h : F_Sys_formattedByte o p0 M = some b) : z_Ct X yX11_formattedByte cX11_formattedByte 2 (some .int) ({ frames := 0, cells := 0, slots := 0, locals := 0 } : Room) [.ref o, .int p0] G M (fun o9 G9 M9 => G9 = G ∧ (o9, M9) = (z_ci M) b) := by
  refine z_enter hX (by decide) (Nat.le_of_ble_eq_true rfl) h (fun F B hR => ?_)
  show z_K X F 2 0 0 G (z_ci M) b 0 0 0 [(0, .ref o), (1, .int p0)] [] M (F_Sys_formattedByte o p0 M)
  unfold F_Sys_formattedByte
  refine zk_iload_n (pc := 0) B dX11_formattedByte_0 1 rfl rfl ?_
  refine zk_if_lt (tgt := 21) (pc := 1) B dX11_formattedByte_1 (by decide) (fun _ => ?_) (fun _ => ?_)
  · refine zk_iconst (v := (-1)) (pc := 21) B dX11_formattedByte_21 (by decide) ?_
    exact zk_iret (pc := 22) B dX11_formattedByte_22 rfl rfl (Nat.le_of_ble_eq_true rfl) (Nat.le_of_ble_eq_true rfl) rfl
  · refine zk_iload_n (pc := 4) B dX11_formattedByte_4 1 rfl rfl ?_
    refine zk_aload_n (pc := 5) B dX11_formattedByte_5 0 rfl rfl ?_
    refine zk_geti (pc := 6) B kx_11 (gSys_s hG) 4 (by decide) kf_11_23 rfl dX11_formattedByte_6 ?_
    refine zk_icmp_ge (tgt := 21) (pc := 9) B dX11_formattedByte_9 (by decide) (fun _ => ?_) (fun _ => ?_)
    · refine zk_iconst (v := (-1)) (pc := 21) B dX11_formattedByte_21 (by decide) ?_
      exact zk_iret (pc := 22) B dX11_formattedByte_22 rfl rfl (Nat.le_of_ble_eq_true rfl) (Nat.le_of_ble_eq_true rfl) rfl
    · refine zk_iload_n (pc := 12) B dX11_formattedByte_12 1 rfl rfl ?_
      refine zk_aload_n (pc := 13) B dX11_formattedByte_13 0 rfl rfl ?_
      refine zk_getr (pc := 14) B kx_11 (gSys_s hG) 3 (by decide) kf_11_20 rfl (gSys_f3 hG) dX11_formattedByte_14 ?_
      refine zk_alen (v := 80) (pc := 17) B (gSys_t3 hG) (by decide) (by decide) dX11_formattedByte_17 ?_
      refine zk_icmp_lt (tgt := 23) (pc := 18) B dX11_formattedByte_18 (by decide) (fun _ => ?_) (fun _ => ?_)
      · refine zk_aload_n (pc := 23) B dX11_formattedByte_23 0 rfl rfl ?_
        refine zk_getr (pc := 24) B kx_11 (gSys_s hG) 3 (by decide) kf_11_20 rfl (gSys_f3 hG) dX11_formattedByte_24 ?_
        refine zk_iload_n (pc := 27) B dX11_formattedByte_27 1 rfl rfl ?_
        refine zk_bald (pc := 28) B (gSys_t3 hG) dX11_formattedByte_28 ?_
        refine zk_sipush (v := 255) (pc := 29) B dX11_formattedByte_29 (by decide) ?_
        refine zk_iand (pc := 32) B dX11_formattedByte_32 ?_
        exact zk_iret (pc := 33) B dX11_formattedByte_33 rfl rfl (Nat.le_of_ble_eq_true rfl) (Nat.le_of_ble_eq_true rfl) rfl
      · refine zk_iconst (v := (-1)) (pc := 21) B dX11_formattedByte_21 (by decide) ?_
        exact zk_iret (pc := 22) B dX11_formattedByte_22 rfl rfl (Nat.le_of_ble_eq_true rfl) (Nat.le_of_ble_eq_true rfl) rfl
set_option maxHeartbeats 4000000 in
set_option maxRecDepth 100000 in
theorem m_Sys_size {X : z_X} (hX : z_ok X) {G : z_Gr} {o : Nat} (hG : g_Sys G o) (p0 : Int32) (M : z_Mem) (b : Except Nat Int32) (h : F_Sys_size o p0 M = some b) : z_Ct X yX11_size cX11_size 2 (some .int) ({ frames := 6, cells := 1, slots := 6, locals := 100 } : Room) [.ref o, .int p0] G M (fun o9 G9 M9 => G9 = G ∧ (o9, M9) = (z_xi M) b) := by
  refine z_enter hX (by decide) (Nat.le_of_ble_eq_true rfl) h (fun F B hR => ?_)
  show z_K X F 2 1 6 G (z_xi M) b 0 0 0 [(0, .ref o), (1, .int p0)] [] M (F_Sys_size o p0 M)
  unfold F_Sys_size
  refine zk_iload_n (pc := 0) B dX11_size_0 1 rfl rfl ?_
  refine zk_if (fun hs => zk_tin (v := 0) (tgt := 52) (pc := 1) B dX11_size_1 hs (by decide) (by decide) rfl (by decide) ?_) (fun hn1_0 => ?_)
  · refine zk_aload_n (pc := 52) B dX11_size_52 0 rfl rfl ?_
    refine zk_getr (pc := 53) B kx_11 (gSys_s hG) 5 (by decide) kf_11_29 rfl (gSys_f5 hG) dX11_size_53 ?_
    refine zk_geti (pc := 56) B kx_9 (gTown_s (gSys_t5 hG)) 0 (by decide) kf_11_181 rfl dX11_size_56 ?_
    exact zk_iret (pc := 59) B dX11_size_59 rfl rfl (Nat.le_of_ble_eq_true rfl) (Nat.le_of_ble_eq_true rfl) rfl
  · refine zk_if (fun hs => zk_tin (v := 1) (tgt := 60) (pc := 1) B dX11_size_1 hs (by decide) (by decide) rfl (by decide) ?_) (fun hn1_1 => ?_)
    · refine zk_aload_n (pc := 60) B dX11_size_60 0 rfl rfl ?_
      refine zk_getr (pc := 61) B kx_11 (gSys_s hG) 5 (by decide) kf_11_29 rfl (gSys_f5 hG) dX11_size_61 ?_
      refine zk_geti (pc := 64) B kx_9 (gTown_s (gSys_t5 hG)) 1 (by decide) kf_11_184 rfl dX11_size_64 ?_
      exact zk_iret (pc := 67) B dX11_size_67 rfl rfl (Nat.le_of_ble_eq_true rfl) (Nat.le_of_ble_eq_true rfl) rfl
    · refine zk_if (fun hs => zk_tin (v := 2) (tgt := 68) (pc := 1) B dX11_size_1 hs (by decide) (by decide) rfl (by decide) ?_) (fun hn1_2 => ?_)
      · refine zk_aload_n (pc := 68) B dX11_size_68 0 rfl rfl ?_
        refine zk_getr (pc := 69) B kx_11 (gSys_s hG) 6 (by decide) kf_11_36 rfl (gSys_f6 hG) dX11_size_69 ?_
        refine zk_geti (pc := 72) B kx_0 (gDesk_s (gSys_t6 hG)) 3 (by decide) kf_11_144 rfl dX11_size_72 ?_
        exact zk_iret (pc := 75) B dX11_size_75 rfl rfl (Nat.le_of_ble_eq_true rfl) (Nat.le_of_ble_eq_true rfl) rfl
      · refine zk_if (fun hs => zk_tin (v := 3) (tgt := 76) (pc := 1) B dX11_size_1 hs (by decide) (by decide) rfl (by decide) ?_) (fun hn1_3 => ?_)
        · refine zk_aload_n (pc := 76) B dX11_size_76 0 rfl rfl ?_
          refine zk_getr (pc := 77) B kx_11 (gSys_s hG) 6 (by decide) kf_11_36 rfl (gSys_f6 hG) dX11_size_77 ?_
          refine zk_geti (pc := 80) B kx_0 (gDesk_s (gSys_t6 hG)) 4 (by decide) kf_11_187 rfl dX11_size_80 ?_
          exact zk_iret (pc := 83) B dX11_size_83 rfl rfl (Nat.le_of_ble_eq_true rfl) (Nat.le_of_ble_eq_true rfl) rfl
        · refine zk_if (fun hs => zk_tin (v := 4) (tgt := 84) (pc := 1) B dX11_size_1 hs (by decide) (by decide) rfl (by decide) ?_) (fun hn1_4 => ?_)
          · refine zk_aload_n (pc := 84) B dX11_size_84 0 rfl rfl ?_
            refine zk_getr (pc := 85) B kx_11 (gSys_s hG) 6 (by decide) kf_11_36 rfl (gSys_f6 hG) dX11_size_85 ?_
            refine zk_geti (pc := 88) B kx_0 (gDesk_s (gSys_t6 hG)) 0 (by decide) kf_11_190 rfl dX11_size_88 ?_
            exact zk_iret (pc := 91) B dX11_size_91 rfl rfl (Nat.le_of_ble_eq_true rfl) (Nat.le_of_ble_eq_true rfl) rfl
          · refine zk_if (fun hs => zk_tin (v := 5) (tgt := 92) (pc := 1) B dX11_size_1 hs (by decide) (by decide) rfl (by decide) ?_) (fun hn1_5 => ?_)
            · refine zk_aload_n (pc := 92) B dX11_size_92 0 rfl rfl ?_
              refine zk_getr (pc := 93) B kx_11 (gSys_s hG) 6 (by decide) kf_11_36 rfl (gSys_f6 hG) dX11_size_93 ?_
              refine zk_iconst (v := 0) (pc := 96) B dX11_size_96 (by decide) ?_
              refine zk_cpi (pc := 97) (k' := 0) (n' := 0) B rfl rfl (Nat.le_of_ble_eq_true rfl) (Nat.le_of_ble_eq_true rfl) (fun b hb => zr_V B hR kV_yX0_countInState km_11_193 kx_0 (gDesk_s (gSys_t6 hG)) [.int 0] rfl rfl (Nat.le_of_ble_eq_true rfl) dX11_size_97 (m_Desk_countInState hX (gSys_t6 hG) 0 M b hb) ⟨Nat.le_of_ble_eq_true rfl, Nat.le_of_ble_eq_true rfl⟩ ⟨Nat.le_of_ble_eq_true rfl, Nat.le_of_ble_eq_true rfl⟩) (fun x2 _ => ?_)
              exact zk_iret (pc := 100) B dX11_size_100 rfl rfl (Nat.le_of_ble_eq_true rfl) (Nat.le_of_ble_eq_true rfl) rfl
            · refine zk_if (fun hs => zk_tin (v := 6) (tgt := 101) (pc := 1) B dX11_size_1 hs (by decide) (by decide) rfl (by decide) ?_) (fun hn1_6 => ?_)
              · refine zk_aload_n (pc := 101) B dX11_size_101 0 rfl rfl ?_
                refine zk_getr (pc := 102) B kx_11 (gSys_s hG) 6 (by decide) kf_11_36 rfl (gSys_f6 hG) dX11_size_102 ?_
                refine zk_cpi (pc := 105) (k' := 0) (n' := 0) B rfl rfl (Nat.le_of_ble_eq_true rfl) (Nat.le_of_ble_eq_true rfl) (fun b hb => zr_V B hR kV_yX0_stopsInAllRoutes km_11_196 kx_0 (gDesk_s (gSys_t6 hG)) [] rfl rfl (Nat.le_of_ble_eq_true rfl) dX11_size_105 (m_Desk_stopsInAllRoutes hX (gSys_t6 hG) M b hb) ⟨Nat.le_of_ble_eq_true rfl, Nat.le_of_ble_eq_true rfl⟩ ⟨Nat.le_of_ble_eq_true rfl, Nat.le_of_ble_eq_true rfl⟩) (fun x1 _ => ?_)
                exact zk_iret (pc := 108) B dX11_size_108 rfl rfl (Nat.le_of_ble_eq_true rfl) (Nat.le_of_ble_eq_true rfl) rfl
              · refine zk_if (fun hs => zk_tin (v := 7) (tgt := 109) (pc := 1) B dX11_size_1 hs (by decide) (by decide) rfl (by decide) ?_) (fun hn1_7 => ?_)
                · refine zk_aload_n (pc := 109) B dX11_size_109 0 rfl rfl ?_
                  refine zk_getr (pc := 110) B kx_11 (gSys_s hG) 6 (by decide) kf_11_36 rfl (gSys_f6 hG) dX11_size_110 ?_
                  refine zk_geti (pc := 113) B kx_0 (gDesk_s (gSys_t6 hG)) 1 (by decide) kf_11_199 rfl dX11_size_113 ?_
                  exact zk_iret (pc := 116) B dX11_size_116 rfl rfl (Nat.le_of_ble_eq_true rfl) (Nat.le_of_ble_eq_true rfl) rfl
                · refine zk_if (fun hs => zk_tin (v := 8) (tgt := 117) (pc := 1) B dX11_size_1 hs (by decide) (by decide) rfl (by decide) ?_) (fun hn1_8 => ?_)
                  · refine zk_aload_n (pc := 117) B dX11_size_117 0 rfl rfl ?_
                    refine zk_getr (pc := 118) B kx_11 (gSys_s hG) 6 (by decide) kf_11_36 rfl (gSys_f6 hG) dX11_size_118 ?_
                    refine zk_geti (pc := 121) B kx_0 (gDesk_s (gSys_t6 hG)) 2 (by decide) kf_11_202 rfl dX11_size_121 ?_
                    exact zk_iret (pc := 124) B dX11_size_124 rfl rfl (Nat.le_of_ble_eq_true rfl) (Nat.le_of_ble_eq_true rfl) rfl
                  · refine zk_tout (pc := 1)  (tgt := 125) B dX11_size_1 (by have q0 := z_ne hn1_0 (z := 0) (by decide); have q1 := z_ne hn1_1 (z := 1) (by decide); have q2 := z_ne hn1_2 (z := 2) (by decide); have q3 := z_ne hn1_3 (z := 3) (by decide); have q4 := z_ne hn1_4 (z := 4) (by decide); have q5 := z_ne hn1_5 (z := 5) (by decide); have q6 := z_ne hn1_6 (z := 6) (by decide); have q7 := z_ne hn1_7 (z := 7) (by decide); have q8 := z_ne hn1_8 (z := 8) (by decide); omega) (by decide) ?_
                    exact zk_throw1 (pc := 125) B hR 205 207 (text := "no such number of the desk") kk_11_205 ki_e1 (by decide +kernel) dX11_size_125 dX11_size_128 dX11_size_129 dX11_size_131 dX11_size_134 (Nat.le_of_ble_eq_true rfl) (Nat.le_of_ble_eq_true rfl) (Nat.le_of_ble_eq_true rfl) (Nat.le_of_ble_eq_true rfl) (Nat.le_of_ble_eq_true rfl) (Nat.le_of_ble_eq_true rfl) rfl
set_option maxHeartbeats 4000000 in
set_option maxRecDepth 100000 in
theorem m_Sys_checkRule {X : z_X} (hX : z_ok X) {G : z_Gr} (p0 : Int32) (M : z_Mem) (b : Except Nat Unit) (h : F_Sys_checkRule p0 M = some b) : z_Ct X yX11_checkRule cX11_checkRule 1 none ({ frames := 6, cells := 1, slots := 6, locals := 100 } : Room) [.int p0] G M (fun o9 G9 M9 => G9 = G ∧ (o9, M9) = (z_xv M) b) := by
  refine z_enter hX (by decide) (Nat.le_of_ble_eq_true rfl) h (fun F B hR => ?_)
  have J10 : z_K X F 1 1 6 G (z_xv M) b 0 0 10 [] [] M (F_Sys_checkRule_J10 M) := by
    unfold F_Sys_checkRule_J10
    exact zk_throw1w (pc := 10) B hR 205 460 (text := "no such rule") kk_11_205 ki_e1 (by decide +kernel) dX11_checkRule_10 dX11_checkRule_13 dX11_checkRule_14 dX11_checkRule_17 dX11_checkRule_20 (Nat.le_of_ble_eq_true rfl) (Nat.le_of_ble_eq_true rfl) (Nat.le_of_ble_eq_true rfl) (Nat.le_of_ble_eq_true rfl) (Nat.le_of_ble_eq_true rfl) (Nat.le_of_ble_eq_true rfl) rfl
  show z_K X F 1 1 6 G (z_xv M) b 0 0 0 [(0, .int p0)] [] M (F_Sys_checkRule p0 M)
  unfold F_Sys_checkRule
  refine zk_iload_n (pc := 0) B dX11_checkRule_0 0 rfl rfl ?_
  refine zk_if_lt (tgt := 10) (pc := 1) B dX11_checkRule_1 (by decide) (fun _ => ?_) (fun _ => ?_)
  · refine zk_sub [] rfl ?_
    exact J10
  · refine zk_iload_n (pc := 4) B dX11_checkRule_4 0 rfl rfl ?_
    refine zk_bipush (v := 10) (pc := 5) B dX11_checkRule_5 (by decide) ?_
    refine zk_icmp_lt (tgt := 21) (pc := 7) B dX11_checkRule_7 (by decide) (fun _ => ?_) (fun _ => ?_)
    · exact zk_vret (pc := 21) B dX11_checkRule_21 rfl (Nat.le_of_ble_eq_true rfl) (Nat.le_of_ble_eq_true rfl) rfl
    · refine zk_sub [] rfl ?_
      exact J10
set_option maxHeartbeats 4000000 in
set_option maxRecDepth 100000 in
theorem m_Sys_rule {X : z_X} (hX : z_ok X) {G : z_Gr} {o : Nat} (hG : g_Sys G o) (p0 : Int32) (M : z_Mem) (b : Except Nat Int32) (h : F_Sys_rule o p0 M = some b) : z_Ct X yX11_rule cX11_rule 2 (some .int) ({ frames := 7, cells := 1, slots := 6, locals := 120 } : Room) [.ref o, .int p0] G M (fun o9 G9 M9 => G9 = G ∧ (o9, M9) = (z_xi M) b) := by
  refine z_enter hX (by decide) (Nat.le_of_ble_eq_true rfl) h (fun F B hR => ?_)
  show z_K X F 2 1 6 G (z_xi M) b 0 0 0 [(0, .ref o), (1, .int p0)] [] M (F_Sys_rule o p0 M)
  unfold F_Sys_rule
  refine zk_iload_n (pc := 0) B dX11_rule_0 1 rfl rfl ?_
  refine zk_cxp (pc := 1) (k' := 1) (n' := 6) B (by decide) rfl rfl (Nat.le_of_ble_eq_true rfl) (Nat.le_of_ble_eq_true rfl) (fun _ => rfl) (fun _ => []) z_xv_1 z_xv_2 z_xv_3 (fun b hb => zr_S B hR kS_yX11_checkRule km_11_210 [.int p0] rfl rfl (Nat.le_of_ble_eq_true rfl) dX11_rule_1 (m_Sys_checkRule hX p0 M b hb) ⟨Nat.le_of_ble_eq_true rfl, Nat.le_of_ble_eq_true rfl⟩ ⟨Nat.le_of_ble_eq_true rfl, Nat.le_of_ble_eq_true rfl⟩) (fun t1 h2 => ?_)
  refine zk_aload_n (pc := 4) B dX11_rule_4 0 rfl rfl ?_
  refine zk_getr (pc := 5) B kx_11 (gSys_s hG) 6 (by decide) kf_11_36 rfl (gSys_f6 hG) dX11_rule_5 ?_
  refine zk_iload_n (pc := 8) B dX11_rule_8 1 rfl rfl ?_
  refine zk_cpi (pc := 9) (k' := 1) (n' := 6) B rfl rfl (Nat.le_of_ble_eq_true rfl) (Nat.le_of_ble_eq_true rfl) (fun b hb => zr_V B hR kV_yX0_ruleValue km_11_213 kx_0 (gDesk_s (gSys_t6 hG)) [.int p0] rfl rfl (Nat.le_of_ble_eq_true rfl) dX11_rule_9 (m_Desk_ruleValue hX (gSys_t6 hG) p0 M b hb) ⟨Nat.le_of_ble_eq_true rfl, Nat.le_of_ble_eq_true rfl⟩ ⟨Nat.le_of_ble_eq_true rfl, Nat.le_of_ble_eq_true rfl⟩) (fun x3 _ => ?_)
  exact zk_iret (pc := 12) B dX11_rule_12 rfl rfl (Nat.le_of_ble_eq_true rfl) (Nat.le_of_ble_eq_true rfl) rfl
set_option maxHeartbeats 4000000 in
set_option maxRecDepth 100000 in
theorem m_Sys_checkZone {X : z_X} (hX : z_ok X) {G : z_Gr} {o : Nat} (hG : g_Sys G o) (p0 : Int32) (M : z_Mem) (b : Except Nat Unit) (h : F_Sys_checkZone o p0 M = some b) : z_Ct X yX11_checkZone cX11_checkZone 2 none ({ frames := 6, cells := 1, slots := 6, locals := 100 } : Room) [.ref o, .int p0] G M (fun o9 G9 M9 => G9 = G ∧ (o9, M9) = (z_xv M) b) := by
  refine z_enter hX (by decide) (Nat.le_of_ble_eq_true rfl) h (fun F B hR => ?_)
  have J15 : z_K X F 2 1 6 G (z_xv M) b 0 0 15 [] [] M (F_Sys_checkZone_J15 o M) := by
    unfold F_Sys_checkZone_J15
    exact zk_throw1w (pc := 15) B hR 205 458 (text := "no such zone") kk_11_205 ki_e1 (by decide +kernel) dX11_checkZone_15 dX11_checkZone_18 dX11_checkZone_19 dX11_checkZone_22 dX11_checkZone_25 (Nat.le_of_ble_eq_true rfl) (Nat.le_of_ble_eq_true rfl) (Nat.le_of_ble_eq_true rfl) (Nat.le_of_ble_eq_true rfl) (Nat.le_of_ble_eq_true rfl) (Nat.le_of_ble_eq_true rfl) rfl
  show z_K X F 2 1 6 G (z_xv M) b 0 0 0 [(0, .ref o), (1, .int p0)] [] M (F_Sys_checkZone o p0 M)
  unfold F_Sys_checkZone
  refine zk_iload_n (pc := 0) B dX11_checkZone_0 1 rfl rfl ?_
  refine zk_if_lt (tgt := 15) (pc := 1) B dX11_checkZone_1 (by decide) (fun _ => ?_) (fun _ => ?_)
  · refine zk_sub [] rfl ?_
    exact J15
  · refine zk_iload_n (pc := 4) B dX11_checkZone_4 1 rfl rfl ?_
    refine zk_aload_n (pc := 5) B dX11_checkZone_5 0 rfl rfl ?_
    refine zk_getr (pc := 6) B kx_11 (gSys_s hG) 5 (by decide) kf_11_29 rfl (gSys_f5 hG) dX11_checkZone_6 ?_
    refine zk_geti (pc := 9) B kx_9 (gTown_s (gSys_t5 hG)) 0 (by decide) kf_11_181 rfl dX11_checkZone_9 ?_
    refine zk_icmp_lt (tgt := 26) (pc := 12) B dX11_checkZone_12 (by decide) (fun _ => ?_) (fun _ => ?_)
    · exact zk_vret (pc := 26) B dX11_checkZone_26 rfl (Nat.le_of_ble_eq_true rfl) (Nat.le_of_ble_eq_true rfl) rfl
    · refine zk_sub [] rfl ?_
      exact J15
set_option maxHeartbeats 4000000 in
set_option maxRecDepth 100000 in
theorem m_Sys_minutes {X : z_X} (hX : z_ok X) {G : z_Gr} {o : Nat} (hG : g_Sys G o) (p0 : Int32) (p1 : Int32) (M : z_Mem) (b : Except Nat Int32) (h : F_Sys_minutes o p0 p1 M = some b) : z_Ct X yX11_minutes cX11_minutes 3 (some .int) ({ frames := 7, cells := 2, slots := 12, locals := 121 } : Room) [.ref o, .int p0, .int p1] G M (fun o9 G9 M9 => G9 = G ∧ (o9, M9) = (z_xi M) b) := by
  refine z_enter hX (by decide) (Nat.le_of_ble_eq_true rfl) h (fun F B hR => ?_)
  show z_K X F 3 2 12 G (z_xi M) b 0 0 0 [(0, .ref o), (1, .int p0), (2, .int p1)] [] M (F_Sys_minutes o p0 p1 M)
  unfold F_Sys_minutes
  refine zk_aload_n (pc := 0) B dX11_minutes_0 0 rfl rfl ?_
  refine zk_iload_n (pc := 1) B dX11_minutes_1 1 rfl rfl ?_
  refine zk_cxp (pc := 2) (k' := 1) (n' := 6) B (by decide) rfl rfl (Nat.le_of_ble_eq_true rfl) (Nat.le_of_ble_eq_true rfl) (fun _ => rfl) (fun _ => []) z_xv_1 z_xv_2 z_xv_3 (fun b hb => zr_V B hR kV_yX11_checkZone km_11_216 kx_11 (gSys_s hG) [.int p0] rfl rfl (Nat.le_of_ble_eq_true rfl) dX11_minutes_2 (m_Sys_checkZone hX hG p0 M b hb) ⟨Nat.le_of_ble_eq_true rfl, Nat.le_of_ble_eq_true rfl⟩ ⟨Nat.le_of_ble_eq_true rfl, Nat.le_of_ble_eq_true rfl⟩) (fun t1 h2 => ?_)
  refine zk_aload_n (pc := 5) B dX11_minutes_5 0 rfl rfl ?_
  refine zk_iload_n (pc := 6) B dX11_minutes_6 2 rfl rfl ?_
  refine zk_cxp (pc := 7) (k' := 2) (n' := 12) B (by decide) rfl rfl (Nat.le_of_ble_eq_true rfl) (Nat.le_of_ble_eq_true rfl) (fun _ => rfl) (fun _ => []) z_xv_1 z_xv_2 z_xv_3 (fun b hb => zr_V B hR kV_yX11_checkZone km_11_216 kx_11 (gSys_s hG) [.int p1] rfl rfl (Nat.le_of_ble_eq_true rfl) dX11_minutes_7 (m_Sys_checkZone hX hG p1 M b hb) ⟨Nat.le_of_ble_eq_true rfl, Nat.le_of_ble_eq_true rfl⟩ ⟨Nat.le_of_ble_eq_true rfl, Nat.le_of_ble_eq_true rfl⟩) (fun t3 h4 => ?_)
  refine zk_aload_n (pc := 10) B dX11_minutes_10 0 rfl rfl ?_
  refine zk_getr (pc := 11) B kx_11 (gSys_s hG) 5 (by decide) kf_11_29 rfl (gSys_f5 hG) dX11_minutes_11 ?_
  refine zk_iload_n (pc := 14) B dX11_minutes_14 1 rfl rfl ?_
  refine zk_iload_n (pc := 15) B dX11_minutes_15 2 rfl rfl ?_
  refine zk_cpi (pc := 16) (k' := 2) (n' := 12) B rfl rfl (Nat.le_of_ble_eq_true rfl) (Nat.le_of_ble_eq_true rfl) (fun b hb => zr_V B hR kV_yX9_wayMinutes km_11_219 kx_9 (gTown_s (gSys_t5 hG)) [.int p0, .int p1] rfl rfl (Nat.le_of_ble_eq_true rfl) dX11_minutes_16 (m_Town_wayMinutes hX (gSys_t5 hG) p0 p1 M b hb) ⟨Nat.le_of_ble_eq_true rfl, Nat.le_of_ble_eq_true rfl⟩ ⟨Nat.le_of_ble_eq_true rfl, Nat.le_of_ble_eq_true rfl⟩) (fun x5 _ => ?_)
  exact zk_iret (pc := 19) B dX11_minutes_19 rfl rfl (Nat.le_of_ble_eq_true rfl) (Nat.le_of_ble_eq_true rfl) rfl
set_option maxHeartbeats 4000000 in
set_option maxRecDepth 100000 in
theorem m_Sys_taxi {X : z_X} (hX : z_ok X) {G : z_Gr} {o : Nat} (hG : g_Sys G o) (p0 : Int32) (p1 : Int32) (M : z_Mem) (b : Except Nat Int32) (h : F_Sys_taxi o p0 p1 M = some b) : z_Ct X yX11_taxi cX11_taxi 4 (some .int) ({ frames := 7, cells := 2, slots := 12, locals := 121 } : Room) [.ref o, .int p0, .int p1] G M (fun o9 G9 M9 => G9 = G ∧ (o9, M9) = (z_xi M) b) := by
  refine z_enter hX (by decide) (Nat.le_of_ble_eq_true rfl) h (fun F B hR => ?_)
  show z_K X F 4 2 12 G (z_xi M) b 0 0 0 [(0, .ref o), (1, .int p0), (2, .int p1)] [] M (F_Sys_taxi o p0 p1 M)
  unfold F_Sys_taxi
  refine zk_aload_n (pc := 0) B dX11_taxi_0 0 rfl rfl ?_
  refine zk_iload_n (pc := 1) B dX11_taxi_1 1 rfl rfl ?_
  refine zk_cxp (pc := 2) (k' := 1) (n' := 6) B (by decide) rfl rfl (Nat.le_of_ble_eq_true rfl) (Nat.le_of_ble_eq_true rfl) (fun _ => rfl) (fun a => [Value.ref a]) z_xr_1 z_xr_2 z_xr_3 (fun b hb => zr_V B hR kV_yX11_existingTaxi km_11_152 kx_11 (gSys_s hG) [.int p0] rfl rfl (Nat.le_of_ble_eq_true rfl) dX11_taxi_2 (m_Sys_existingTaxi hX hG p0 M b hb) ⟨Nat.le_of_ble_eq_true rfl, Nat.le_of_ble_eq_true rfl⟩ ⟨Nat.le_of_ble_eq_true rfl, Nat.le_of_ble_eq_true rfl⟩) (fun t1 h2 => ?_)
  have ht1 : g_Taxi G t1 := fr_Sys_existingTaxi hG h2
  refine zk_astore_n (loc' := [(3, .ref t1), (0, .ref o), (1, .int p0), (2, .int p1)]) (pc := 5) B dX11_taxi_5 rfl (by decide) rfl ?_
  refine zk_iload_n (pc := 6) B dX11_taxi_6 3 rfl rfl ?_
  refine zk_if (fun hs => zk_tin (v := 0) (tgt := 60) (pc := 7) B dX11_taxi_7 hs (by decide) (by decide) rfl (by decide) ?_) (fun hn7_0 => ?_)
  · refine zk_aload_n (pc := 60) B dX11_taxi_60 0 rfl rfl ?_
    refine zk_geti (pc := 61) B kx_6 (gTaxi_s ht1) 0 (by decide) kf_11_223 rfl dX11_taxi_61 ?_
    exact zk_iret (pc := 64) B dX11_taxi_64 rfl rfl (Nat.le_of_ble_eq_true rfl) (Nat.le_of_ble_eq_true rfl) rfl
  · refine zk_if (fun hs => zk_tin (v := 1) (tgt := 65) (pc := 7) B dX11_taxi_7 hs (by decide) (by decide) rfl (by decide) ?_) (fun hn7_1 => ?_)
    · refine zk_aload_n (pc := 65) B dX11_taxi_65 0 rfl rfl ?_
      refine zk_geti (pc := 66) B kx_6 (gTaxi_s ht1) 1 (by decide) kf_11_226 rfl dX11_taxi_66 ?_
      exact zk_iret (pc := 69) B dX11_taxi_69 rfl rfl (Nat.le_of_ble_eq_true rfl) (Nat.le_of_ble_eq_true rfl) rfl
    · refine zk_if (fun hs => zk_tin (v := 2) (tgt := 70) (pc := 7) B dX11_taxi_7 hs (by decide) (by decide) rfl (by decide) ?_) (fun hn7_2 => ?_)
      · refine zk_aload_n (pc := 70) B dX11_taxi_70 0 rfl rfl ?_
        refine zk_geti (pc := 71) B kx_6 (gTaxi_s ht1) 2 (by decide) kf_11_229 rfl dX11_taxi_71 ?_
        exact zk_iret (pc := 74) B dX11_taxi_74 rfl rfl (Nat.le_of_ble_eq_true rfl) (Nat.le_of_ble_eq_true rfl) rfl
      · refine zk_if (fun hs => zk_tin (v := 3) (tgt := 75) (pc := 7) B dX11_taxi_7 hs (by decide) (by decide) rfl (by decide) ?_) (fun hn7_3 => ?_)
        · refine zk_aload_n (pc := 75) B dX11_taxi_75 0 rfl rfl ?_
          refine zk_geti (pc := 76) B kx_6 (gTaxi_s ht1) 3 (by decide) kf_11_232 rfl dX11_taxi_76 ?_
          exact zk_iret (pc := 79) B dX11_taxi_79 rfl rfl (Nat.le_of_ble_eq_true rfl) (Nat.le_of_ble_eq_true rfl) rfl
        · refine zk_if (fun hs => zk_tin (v := 4) (tgt := 80) (pc := 7) B dX11_taxi_7 hs (by decide) (by decide) rfl (by decide) ?_) (fun hn7_4 => ?_)
          · refine zk_aload_n (pc := 80) B dX11_taxi_80 0 rfl rfl ?_
            refine zk_geti (pc := 81) B kx_6 (gTaxi_s ht1) 4 (by decide) kf_11_234 rfl dX11_taxi_81 ?_
            exact zk_iret (pc := 84) B dX11_taxi_84 rfl rfl (Nat.le_of_ble_eq_true rfl) (Nat.le_of_ble_eq_true rfl) rfl
          · refine zk_if (fun hs => zk_tin (v := 5) (tgt := 85) (pc := 7) B dX11_taxi_7 hs (by decide) (by decide) rfl (by decide) ?_) (fun hn7_5 => ?_)
            · refine zk_aload_n (pc := 85) B dX11_taxi_85 0 rfl rfl ?_
              refine zk_geti (pc := 86) B kx_6 (gTaxi_s ht1) 7 (by decide) kf_11_156 rfl dX11_taxi_86 ?_
              exact zk_iret (pc := 89) B dX11_taxi_89 rfl rfl (Nat.le_of_ble_eq_true rfl) (Nat.le_of_ble_eq_true rfl) rfl
            · refine zk_if (fun hs => zk_tin (v := 6) (tgt := 90) (pc := 7) B dX11_taxi_7 hs (by decide) (by decide) rfl (by decide) ?_) (fun hn7_6 => ?_)
              · refine zk_aload_n (pc := 90) B dX11_taxi_90 1 rfl rfl ?_
                refine zk_getr (pc := 91) B kx_11 (gSys_s hG) 6 (by decide) kf_11_36 rfl (gSys_f6 hG) dX11_taxi_91 ?_
                refine zk_aload_n (pc := 94) B dX11_taxi_94 0 rfl rfl ?_
                refine zk_cpi (pc := 95) (k' := 1) (n' := 6) B rfl rfl (Nat.le_of_ble_eq_true rfl) (Nat.le_of_ble_eq_true rfl) (fun b hb => zr_V B hR kV_yX0_personsAboard km_11_237 kx_0 (gDesk_s (gSys_t6 hG)) [.ref t1] rfl rfl (Nat.le_of_ble_eq_true rfl) dX11_taxi_95 (m_Desk_personsAboard hX (gSys_t6 hG) ht1 M b hb) ⟨Nat.le_of_ble_eq_true rfl, Nat.le_of_ble_eq_true rfl⟩ ⟨Nat.le_of_ble_eq_true rfl, Nat.le_of_ble_eq_true rfl⟩) (fun x3 _ => ?_)
                exact zk_iret (pc := 98) B dX11_taxi_98 rfl rfl (Nat.le_of_ble_eq_true rfl) (Nat.le_of_ble_eq_true rfl) rfl
              · refine zk_if (fun hs => zk_tin (v := 7) (tgt := 99) (pc := 7) B dX11_taxi_7 hs (by decide) (by decide) rfl (by decide) ?_) (fun hn7_7 => ?_)
                · refine zk_aload_n (pc := 99) B dX11_taxi_99 0 rfl rfl ?_
                  refine zk_geti (pc := 100) B kx_6 (gTaxi_s ht1) 8 (by decide) kf_11_241 rfl dX11_taxi_100 ?_
                  exact zk_iret (pc := 103) B dX11_taxi_103 rfl rfl (Nat.le_of_ble_eq_true rfl) (Nat.le_of_ble_eq_true rfl) rfl
                · refine zk_if (fun hs => zk_tin (v := 8) (tgt := 104) (pc := 7) B dX11_taxi_7 hs (by decide) (by decide) rfl (by decide) ?_) (fun hn7_8 => ?_)
                  · refine zk_aload_n (pc := 104) B dX11_taxi_104 0 rfl rfl ?_
                    refine zk_geti (pc := 105) B kx_6 (gTaxi_s ht1) 5 (by decide) kf_11_244 rfl dX11_taxi_105 ?_
                    exact zk_iret (pc := 108) B dX11_taxi_108 rfl rfl (Nat.le_of_ble_eq_true rfl) (Nat.le_of_ble_eq_true rfl) rfl
                  · refine zk_if (fun hs => zk_tin (v := 9) (tgt := 109) (pc := 7) B dX11_taxi_7 hs (by decide) (by decide) rfl (by decide) ?_) (fun hn7_9 => ?_)
                    · refine zk_aload_n (pc := 109) B dX11_taxi_109 0 rfl rfl ?_
                      refine zk_geti (pc := 110) B kx_6 (gTaxi_s ht1) 6 (by decide) kf_11_247 rfl dX11_taxi_110 ?_
                      exact zk_iret (pc := 113) B dX11_taxi_113 rfl rfl (Nat.le_of_ble_eq_true rfl) (Nat.le_of_ble_eq_true rfl) rfl
                    · refine zk_tout (pc := 7)  (tgt := 114) B dX11_taxi_7 (by have q0 := z_ne hn7_0 (z := 0) (by decide); have q1 := z_ne hn7_1 (z := 1) (by decide); have q2 := z_ne hn7_2 (z := 2) (by decide); have q3 := z_ne hn7_3 (z := 3) (by decide); have q4 := z_ne hn7_4 (z := 4) (by decide); have q5 := z_ne hn7_5 (z := 5) (by decide); have q6 := z_ne hn7_6 (z := 6) (by decide); have q7 := z_ne hn7_7 (z := 7) (by decide); have q8 := z_ne hn7_8 (z := 8) (by decide); have q9 := z_ne hn7_9 (z := 9) (by decide); omega) (by decide) ?_
                      exact zk_throw1 (pc := 114) B hR 205 250 (text := "no such property of a taxi") kk_11_205 ki_e1 (by decide +kernel) dX11_taxi_114 dX11_taxi_117 dX11_taxi_118 dX11_taxi_120 dX11_taxi_123 (Nat.le_of_ble_eq_true rfl) (Nat.le_of_ble_eq_true rfl) (Nat.le_of_ble_eq_true rfl) (Nat.le_of_ble_eq_true rfl) (Nat.le_of_ble_eq_true rfl) (Nat.le_of_ble_eq_true rfl) rfl
set_option maxHeartbeats 4000000 in
set_option maxRecDepth 100000 in
theorem m_Sys_account {X : z_X} (hX : z_ok X) {G : z_Gr} {o : Nat} (hG : g_Sys G o) (p0 : Int32) (p1 : Int32) (M : z_Mem) (b : Except Nat Int32) (h : F_Sys_account o p0 p1 M = some b) : z_Ct X yX11_account cX11_account 4 (some .int) ({ frames := 7, cells := 2, slots := 12, locals := 121 } : Room) [.ref o, .int p0, .int p1] G M (fun o9 G9 M9 => G9 = G ∧ (o9, M9) = (z_xi M) b) := by
  refine z_enter hX (by decide) (Nat.le_of_ble_eq_true rfl) h (fun F B hR => ?_)
  show z_K X F 4 2 12 G (z_xi M) b 0 0 0 [(0, .ref o), (1, .int p0), (2, .int p1)] [] M (F_Sys_account o p0 p1 M)
  unfold F_Sys_account
  refine zk_aload_n (pc := 0) B dX11_account_0 0 rfl rfl ?_
  refine zk_iload_n (pc := 1) B dX11_account_1 1 rfl rfl ?_
  refine zk_cxp (pc := 2) (k' := 1) (n' := 6) B (by decide) rfl rfl (Nat.le_of_ble_eq_true rfl) (Nat.le_of_ble_eq_true rfl) (fun _ => rfl) (fun a => [Value.ref a]) z_xr_1 z_xr_2 z_xr_3 (fun b hb => zr_V B hR kV_yX11_existingTaxi km_11_152 kx_11 (gSys_s hG) [.int p0] rfl rfl (Nat.le_of_ble_eq_true rfl) dX11_account_2 (m_Sys_existingTaxi hX hG p0 M b hb) ⟨Nat.le_of_ble_eq_true rfl, Nat.le_of_ble_eq_true rfl⟩ ⟨Nat.le_of_ble_eq_true rfl, Nat.le_of_ble_eq_true rfl⟩) (fun t1 h2 => ?_)
  have ht1 : g_Taxi G t1 := fr_Sys_existingTaxi hG h2
  refine zk_astore_n (loc' := [(3, .ref t1), (0, .ref o), (1, .int p0), (2, .int p1)]) (pc := 5) B dX11_account_5 rfl (by decide) rfl ?_
  refine zk_iload_n (pc := 6) B dX11_account_6 3 rfl rfl ?_
  refine zk_if (fun hs => zk_tin (v := 0) (tgt := 44) (pc := 7) B dX11_account_7 hs (by decide) (by decide) rfl (by decide) ?_) (fun hn7_0 => ?_)
  · refine zk_aload_n (pc := 44) B dX11_account_44 0 rfl rfl ?_
    refine zk_geti (pc := 45) B kx_6 (gTaxi_s ht1) 11 (by decide) kf_11_252 rfl dX11_account_45 ?_
    exact zk_iret (pc := 48) B dX11_account_48 rfl rfl (Nat.le_of_ble_eq_true rfl) (Nat.le_of_ble_eq_true rfl) rfl
  · refine zk_if (fun hs => zk_tin (v := 1) (tgt := 49) (pc := 7) B dX11_account_7 hs (by decide) (by decide) rfl (by decide) ?_) (fun hn7_1 => ?_)
    · refine zk_aload_n (pc := 49) B dX11_account_49 0 rfl rfl ?_
      refine zk_geti (pc := 50) B kx_6 (gTaxi_s ht1) 12 (by decide) kf_11_255 rfl dX11_account_50 ?_
      exact zk_iret (pc := 53) B dX11_account_53 rfl rfl (Nat.le_of_ble_eq_true rfl) (Nat.le_of_ble_eq_true rfl) rfl
    · refine zk_if (fun hs => zk_tin (v := 2) (tgt := 54) (pc := 7) B dX11_account_7 hs (by decide) (by decide) rfl (by decide) ?_) (fun hn7_2 => ?_)
      · refine zk_aload_n (pc := 54) B dX11_account_54 0 rfl rfl ?_
        refine zk_geti (pc := 55) B kx_6 (gTaxi_s ht1) 13 (by decide) kf_11_258 rfl dX11_account_55 ?_
        exact zk_iret (pc := 58) B dX11_account_58 rfl rfl (Nat.le_of_ble_eq_true rfl) (Nat.le_of_ble_eq_true rfl) rfl
      · refine zk_if (fun hs => zk_tin (v := 3) (tgt := 59) (pc := 7) B dX11_account_7 hs (by decide) (by decide) rfl (by decide) ?_) (fun hn7_3 => ?_)
        · refine zk_aload_n (pc := 59) B dX11_account_59 0 rfl rfl ?_
          refine zk_geti (pc := 60) B kx_6 (gTaxi_s ht1) 14 (by decide) kf_11_261 rfl dX11_account_60 ?_
          exact zk_iret (pc := 63) B dX11_account_63 rfl rfl (Nat.le_of_ble_eq_true rfl) (Nat.le_of_ble_eq_true rfl) rfl
        · refine zk_if (fun hs => zk_tin (v := 4) (tgt := 64) (pc := 7) B dX11_account_7 hs (by decide) (by decide) rfl (by decide) ?_) (fun hn7_4 => ?_)
          · refine zk_aload_n (pc := 64) B dX11_account_64 0 rfl rfl ?_
            refine zk_geti (pc := 65) B kx_6 (gTaxi_s ht1) 15 (by decide) kf_11_264 rfl dX11_account_65 ?_
            exact zk_iret (pc := 68) B dX11_account_68 rfl rfl (Nat.le_of_ble_eq_true rfl) (Nat.le_of_ble_eq_true rfl) rfl
          · refine zk_if (fun hs => zk_tin (v := 5) (tgt := 69) (pc := 7) B dX11_account_7 hs (by decide) (by decide) rfl (by decide) ?_) (fun hn7_5 => ?_)
            · refine zk_aload_n (pc := 69) B dX11_account_69 0 rfl rfl ?_
              refine zk_geti (pc := 70) B kx_6 (gTaxi_s ht1) 16 (by decide) kf_11_267 rfl dX11_account_70 ?_
              exact zk_iret (pc := 73) B dX11_account_73 rfl rfl (Nat.le_of_ble_eq_true rfl) (Nat.le_of_ble_eq_true rfl) rfl
            · refine zk_tout (pc := 7)  (tgt := 74) B dX11_account_7 (by have q0 := z_ne hn7_0 (z := 0) (by decide); have q1 := z_ne hn7_1 (z := 1) (by decide); have q2 := z_ne hn7_2 (z := 2) (by decide); have q3 := z_ne hn7_3 (z := 3) (by decide); have q4 := z_ne hn7_4 (z := 4) (by decide); have q5 := z_ne hn7_5 (z := 5) (by decide); omega) (by decide) ?_
              exact zk_throw1w (pc := 74) B hR 205 270 (text := "no such amount of a taxi") kk_11_205 ki_e1 (by decide +kernel) dX11_account_74 dX11_account_77 dX11_account_78 dX11_account_81 dX11_account_84 (Nat.le_of_ble_eq_true rfl) (Nat.le_of_ble_eq_true rfl) (Nat.le_of_ble_eq_true rfl) (Nat.le_of_ble_eq_true rfl) (Nat.le_of_ble_eq_true rfl) (Nat.le_of_ble_eq_true rfl) rfl
set_option maxHeartbeats 4000000 in
set_option maxRecDepth 100000 in
theorem m_Sys_stop {X : z_X} (hX : z_ok X) {G : z_Gr} {o : Nat} (hG : g_Sys G o) (p0 : Int32) (p1 : Int32) (p2 : Int32) (M : z_Mem) (b : Except Nat Int32 × z_Mem) (h : F_Sys_stop o p0 p1 p2 M = some b) : z_Ct X yX11_stop cX11_stop 6 (some .int) ({ frames := 7, cells := 2, slots := 12, locals := 121 } : Room) [.ref o, .int p0, .int p1, .int p2] G M (fun o9 G9 M9 => G9 = G ∧ (o9, M9) = z_xim b) := by
  refine z_enter hX (by decide) (Nat.le_of_ble_eq_true rfl) h (fun F B hR => ?_)
  have J20 : ∀  (M : z_Mem), z_K X F 6 2 12 G z_xim b 1 6 20 [] [] M (F_Sys_stop_J20 o M) := by
    intro  M
    unfold F_Sys_stop_J20
    exact zk_throw1w (pc := 20) B hR 205 272 (text := "no such stop") kk_11_205 ki_e1 (by decide +kernel) dX11_stop_20 dX11_stop_23 dX11_stop_24 dX11_stop_27 dX11_stop_30 (Nat.le_of_ble_eq_true rfl) (Nat.le_of_ble_eq_true rfl) (Nat.le_of_ble_eq_true rfl) (Nat.le_of_ble_eq_true rfl) (Nat.le_of_ble_eq_true rfl) (Nat.le_of_ble_eq_true rfl) rfl
  show z_K X F 6 2 12 G z_xim b 0 0 0 [(0, .ref o), (1, .int p0), (2, .int p1), (3, .int p2)] [] M (F_Sys_stop o p0 p1 p2 M)
  unfold F_Sys_stop
  refine zk_aload_n (pc := 0) B dX11_stop_0 0 rfl rfl ?_
  refine zk_iload_n (pc := 1) B dX11_stop_1 1 rfl rfl ?_
  refine zk_cxm (pc := 2) (k' := 1) (n' := 6) B (by decide) rfl rfl (Nat.le_of_ble_eq_true rfl) (Nat.le_of_ble_eq_true rfl) (fun _ => rfl) (fun a => [Value.ref a]) z_xr_1 z_xr_2 z_xr_3 (fun b hb => zr_V B hR kV_yX11_existingTaxi km_11_152 kx_11 (gSys_s hG) [.int p0] rfl rfl (Nat.le_of_ble_eq_true rfl) dX11_stop_2 (m_Sys_existingTaxi hX hG p0 M b hb) ⟨Nat.le_of_ble_eq_true rfl, Nat.le_of_ble_eq_true rfl⟩ ⟨Nat.le_of_ble_eq_true rfl, Nat.le_of_ble_eq_true rfl⟩) (fun t1 h2 => ?_)
  have ht1 : g_Taxi G t1 := fr_Sys_existingTaxi hG h2
  refine zk_astore (loc' := [(4, .ref t1), (0, .ref o), (1, .int p0), (2, .int p1), (3, .int p2)]) (pc := 5) B dX11_stop_5 (by decide) rfl ?_
  refine zk_iload_n (pc := 7) B dX11_stop_7 3 rfl rfl ?_
  refine zk_if_lt (tgt := 20) (pc := 8) B dX11_stop_8 (by decide) (fun _ => ?_) (fun _ => ?_)
  · refine zk_sub [] rfl ?_
    exact J20 M
  · refine zk_iload_n (pc := 11) B dX11_stop_11 3 rfl rfl ?_
    refine zk_aload (pc := 12) B dX11_stop_12 0 rfl ?_
    refine zk_geti (pc := 14) B kx_6 (gTaxi_s ht1) 7 (by decide) kf_11_156 rfl dX11_stop_14 ?_
    refine zk_icmp_lt (tgt := 31) (pc := 17) B dX11_stop_17 (by decide) (fun _ => ?_) (fun _ => ?_)
    · refine zk_aload (pc := 31) B dX11_stop_31 0 rfl ?_
      refine zk_iload_n (pc := 33) B dX11_stop_33 3 rfl rfl ?_
      refine zk_cpi (pc := 34) (k' := 1) (n' := 6) B rfl rfl (Nat.le_of_ble_eq_true rfl) (Nat.le_of_ble_eq_true rfl) (fun b hb => zr_V B hR kV_yX6_stopAt km_11_164 kx_6 (gTaxi_s ht1) [.int p1] rfl rfl (Nat.le_of_ble_eq_true rfl) dX11_stop_34 (m_Taxi_stopAt hX ht1 p1 M b hb) ⟨Nat.le_of_ble_eq_true rfl, Nat.le_of_ble_eq_true rfl⟩ ⟨Nat.le_of_ble_eq_true rfl, Nat.le_of_ble_eq_true rfl⟩) (fun x3 _ => ?_)
      refine zk_istore (loc' := [(5, .int x3), (4, .ref t1), (0, .ref o), (1, .int p0), (2, .int p1), (3, .int p2)]) (pc := 37) B dX11_stop_37 (by decide) rfl ?_
      refine zk_aload_n (pc := 39) B dX11_stop_39 2 rfl rfl ?_
      refine zk_getr (pc := 40) B kx_11 (gSys_s hG) 10 (by decide) kf_11_59 rfl (gSys_f10 hG) dX11_stop_40 ?_
      refine zk_aload (pc := 43) B dX11_stop_43 1 rfl ?_
      refine zk_cvm (pc := 45) (k' := 1) (n' := 6) B rfl rfl (Nat.le_of_ble_eq_true rfl) (Nat.le_of_ble_eq_true rfl) (fun b hb => zr_V B hR kV_yX3_planRoute km_11_274 kx_3 (gPlan_s hG) [.ref t1] rfl rfl (Nat.le_of_ble_eq_true rfl) dX11_stop_45 (m_Plan_planRoute hX hG ht1 M b hb) ⟨Nat.le_of_ble_eq_true rfl, Nat.le_of_ble_eq_true rfl⟩ ⟨Nat.le_of_ble_eq_true rfl, Nat.le_of_ble_eq_true rfl⟩) (fun M4 => ?_)
      refine zk_iload_n (pc := 48) B dX11_stop_48 5 rfl rfl ?_
      refine zk_if (fun hs => zk_tin (v := 0) (tgt := 88) (pc := 49) B dX11_stop_49 hs (by decide) (by decide) rfl (by decide) ?_) (fun hn49_0 => ?_)
      · refine zk_iload (pc := 88) B dX11_stop_88 0 rfl ?_
        refine zk_cpi (pc := 90) (k' := 1) (n' := 6) B rfl rfl (Nat.le_of_ble_eq_true rfl) (Nat.le_of_ble_eq_true rfl) (fun b hb => zr_S B hR kS_yX0_rideNumber km_11_171 [.int x3] rfl rfl (Nat.le_of_ble_eq_true rfl) dX11_stop_90 (m_Desk_rideNumber hX x3 M4 b hb) ⟨Nat.le_of_ble_eq_true rfl, Nat.le_of_ble_eq_true rfl⟩ ⟨Nat.le_of_ble_eq_true rfl, Nat.le_of_ble_eq_true rfl⟩) (fun x10 _ => ?_)
        exact zk_iret (pc := 93) B dX11_stop_93 rfl rfl (Nat.le_of_ble_eq_true rfl) (Nat.le_of_ble_eq_true rfl) rfl
      · refine zk_if (fun hs => zk_tin (v := 1) (tgt := 94) (pc := 49) B dX11_stop_49 hs (by decide) (by decide) rfl (by decide) ?_) (fun hn49_1 => ?_)
        · refine zk_iload (pc := 94) B dX11_stop_94 0 rfl ?_
          refine zk_cpi (pc := 96) (k' := 1) (n' := 6) B rfl rfl (Nat.le_of_ble_eq_true rfl) (Nat.le_of_ble_eq_true rfl) (fun b hb => zr_S B hR kS_yX0_isPickup km_11_174 [.int x3] rfl rfl (Nat.le_of_ble_eq_true rfl) dX11_stop_96 (m_Desk_isPickup hX x3 M4 b hb) ⟨Nat.le_of_ble_eq_true rfl, Nat.le_of_ble_eq_true rfl⟩ ⟨Nat.le_of_ble_eq_true rfl, Nat.le_of_ble_eq_true rfl⟩) (fun x9 _ => ?_)
          refine zk_if_eq (tgt := 106) (pc := 99) B dX11_stop_99 (by decide) (fun _ => ?_) (fun _ => ?_)
          · refine zk_iconst (v := 0) (pc := 106) B dX11_stop_106 (by decide) ?_
            exact zk_iret (pc := 107) B dX11_stop_107 rfl rfl (Nat.le_of_ble_eq_true rfl) (Nat.le_of_ble_eq_true rfl) rfl
          · refine zk_iconst (v := 1) (pc := 102) B dX11_stop_102 (by decide) ?_
            refine zk_goto (tgt := 107) (pc := 103) B dX11_stop_103 (by decide) ?_
            exact zk_iret (pc := 107) B dX11_stop_107 rfl rfl (Nat.le_of_ble_eq_true rfl) (Nat.le_of_ble_eq_true rfl) rfl
        · refine zk_if (fun hs => zk_tin (v := 2) (tgt := 108) (pc := 49) B dX11_stop_49 hs (by decide) (by decide) rfl (by decide) ?_) (fun hn49_2 => ?_)
          · refine zk_aload_n (pc := 108) B dX11_stop_108 2 rfl rfl ?_
            refine zk_getr (pc := 109) B kx_11 (gSys_s hG) 6 (by decide) kf_11_36 rfl (gSys_f6 hG) dX11_stop_109 ?_
            refine zk_iload (pc := 112) B dX11_stop_112 0 rfl ?_
            refine zk_cpi (pc := 114) (k' := 1) (n' := 6) B rfl rfl (Nat.le_of_ble_eq_true rfl) (Nat.le_of_ble_eq_true rfl) (fun b hb => zr_V B hR kV_yX0_zoneOfStop km_11_178 kx_0 (gDesk_s (gSys_t6 hG)) [.int x3] rfl rfl (Nat.le_of_ble_eq_true rfl) dX11_stop_114 (m_Desk_zoneOfStop hX (gSys_t6 hG) x3 M4 b hb) ⟨Nat.le_of_ble_eq_true rfl, Nat.le_of_ble_eq_true rfl⟩ ⟨Nat.le_of_ble_eq_true rfl, Nat.le_of_ble_eq_true rfl⟩) (fun x8 _ => ?_)
            exact zk_iret (pc := 117) B dX11_stop_117 rfl rfl (Nat.le_of_ble_eq_true rfl) (Nat.le_of_ble_eq_true rfl) rfl
          · refine zk_if (fun hs => zk_tin (v := 3) (tgt := 118) (pc := 49) B dX11_stop_49 hs (by decide) (by decide) rfl (by decide) ?_) (fun hn49_3 => ?_)
            · refine zk_aload_n (pc := 118) B dX11_stop_118 2 rfl rfl ?_
              refine zk_getr (pc := 119) B kx_11 (gSys_s hG) 10 (by decide) kf_11_59 rfl (gSys_f10 hG) dX11_stop_119 ?_
              refine zk_iload_n (pc := 122) B dX11_stop_122 4 rfl rfl ?_
              refine zk_cpi (pc := 123) (k' := 1) (n' := 6) B rfl rfl (Nat.le_of_ble_eq_true rfl) (Nat.le_of_ble_eq_true rfl) (fun b hb => zr_V B hR kV_yX3_leavingAt km_11_278 kx_3 (gPlan_s hG) [.int p1] rfl rfl (Nat.le_of_ble_eq_true rfl) dX11_stop_123 (m_Plan_leavingAt hX hG p1 M4 b hb) ⟨Nat.le_of_ble_eq_true rfl, Nat.le_of_ble_eq_true rfl⟩ ⟨Nat.le_of_ble_eq_true rfl, Nat.le_of_ble_eq_true rfl⟩) (fun x7 _ => ?_)
              exact zk_iret (pc := 126) B dX11_stop_126 rfl rfl (Nat.le_of_ble_eq_true rfl) (Nat.le_of_ble_eq_true rfl) rfl
            · refine zk_if (fun hs => zk_tin (v := 4) (tgt := 127) (pc := 49) B dX11_stop_49 hs (by decide) (by decide) rfl (by decide) ?_) (fun hn49_4 => ?_)
              · refine zk_aload_n (pc := 127) B dX11_stop_127 2 rfl rfl ?_
                refine zk_getr (pc := 128) B kx_11 (gSys_s hG) 10 (by decide) kf_11_59 rfl (gSys_f10 hG) dX11_stop_128 ?_
                refine zk_iload_n (pc := 131) B dX11_stop_131 4 rfl rfl ?_
                refine zk_cpi (pc := 132) (k' := 1) (n' := 6) B rfl rfl (Nat.le_of_ble_eq_true rfl) (Nat.le_of_ble_eq_true rfl) (fun b hb => zr_V B hR kV_yX3_arrivalAt km_11_281 kx_3 (gPlan_s hG) [.int p1] rfl rfl (Nat.le_of_ble_eq_true rfl) dX11_stop_132 (m_Plan_arrivalAt hX hG p1 M4 b hb) ⟨Nat.le_of_ble_eq_true rfl, Nat.le_of_ble_eq_true rfl⟩ ⟨Nat.le_of_ble_eq_true rfl, Nat.le_of_ble_eq_true rfl⟩) (fun x6 _ => ?_)
                exact zk_iret (pc := 135) B dX11_stop_135 rfl rfl (Nat.le_of_ble_eq_true rfl) (Nat.le_of_ble_eq_true rfl) rfl
              · refine zk_if (fun hs => zk_tin (v := 5) (tgt := 136) (pc := 49) B dX11_stop_49 hs (by decide) (by decide) rfl (by decide) ?_) (fun hn49_5 => ?_)
                · refine zk_aload_n (pc := 136) B dX11_stop_136 2 rfl rfl ?_
                  refine zk_getr (pc := 137) B kx_11 (gSys_s hG) 10 (by decide) kf_11_59 rfl (gSys_f10 hG) dX11_stop_137 ?_
                  refine zk_iload_n (pc := 140) B dX11_stop_140 4 rfl rfl ?_
                  refine zk_cpi (pc := 141) (k' := 1) (n' := 6) B rfl rfl (Nat.le_of_ble_eq_true rfl) (Nat.le_of_ble_eq_true rfl) (fun b hb => zr_V B hR kV_yX3_doneAt km_11_284 kx_3 (gPlan_s hG) [.int p1] rfl rfl (Nat.le_of_ble_eq_true rfl) dX11_stop_141 (m_Plan_doneAt hX hG p1 M4 b hb) ⟨Nat.le_of_ble_eq_true rfl, Nat.le_of_ble_eq_true rfl⟩ ⟨Nat.le_of_ble_eq_true rfl, Nat.le_of_ble_eq_true rfl⟩) (fun x5 _ => ?_)
                  exact zk_iret (pc := 144) B dX11_stop_144 rfl rfl (Nat.le_of_ble_eq_true rfl) (Nat.le_of_ble_eq_true rfl) rfl
                · refine zk_tout (pc := 49)  (tgt := 145) B dX11_stop_49 (by have q0 := z_ne hn49_0 (z := 0) (by decide); have q1 := z_ne hn49_1 (z := 1) (by decide); have q2 := z_ne hn49_2 (z := 2) (by decide); have q3 := z_ne hn49_3 (z := 3) (by decide); have q4 := z_ne hn49_4 (z := 4) (by decide); have q5 := z_ne hn49_5 (z := 5) (by decide); omega) (by decide) ?_
                  exact zk_throw1w (pc := 145) B hR 205 287 (text := "no such property of a stop") kk_11_205 ki_e1 (by decide +kernel) dX11_stop_145 dX11_stop_148 dX11_stop_149 dX11_stop_152 dX11_stop_155 (Nat.le_of_ble_eq_true rfl) (Nat.le_of_ble_eq_true rfl) (Nat.le_of_ble_eq_true rfl) (Nat.le_of_ble_eq_true rfl) (Nat.le_of_ble_eq_true rfl) (Nat.le_of_ble_eq_true rfl) rfl
    · refine zk_sub [] rfl ?_
      exact J20 M
set_option maxHeartbeats 4000000 in
set_option maxRecDepth 100000 in
theorem m_Sys_existingRide {X : z_X} (hX : z_ok X) {G : z_Gr} {o : Nat} (hG : g_Sys G o) (p0 : Int32) (M : z_Mem) (b : Except Nat Nat) (h : F_Sys_existingRide o p0 M = some b) : z_Ct X yX11_existingRide cX11_existingRide 2 (some (.object "SharedTaxis$Ride")) ({ frames := 6, cells := 1, slots := 6, locals := 100 } : Room) [.ref o, .int p0] G M (fun o9 G9 M9 => G9 = G ∧ (o9, M9) = (z_xr M) b) := by
  refine z_enter hX (by decide) (Nat.le_of_ble_eq_true rfl) h (fun F B hR => ?_)
  have J21 : z_K X F 2 1 6 G (z_xr M) b 0 0 21 [] [] M (F_Sys_existingRide_J21 o M) := by
    unfold F_Sys_existingRide_J21
    exact zk_throw1w (pc := 21) B hR 205 466 (text := "no such ride") kk_11_205 ki_e1 (by decide +kernel) dX11_existingRide_21 dX11_existingRide_24 dX11_existingRide_25 dX11_existingRide_28 dX11_existingRide_31 (Nat.le_of_ble_eq_true rfl) (Nat.le_of_ble_eq_true rfl) (Nat.le_of_ble_eq_true rfl) (Nat.le_of_ble_eq_true rfl) (Nat.le_of_ble_eq_true rfl) (Nat.le_of_ble_eq_true rfl) rfl
  show z_K X F 2 1 6 G (z_xr M) b 0 0 0 [(0, .ref o), (1, .int p0)] [] M (F_Sys_existingRide o p0 M)
  unfold F_Sys_existingRide
  refine zk_iload_n (pc := 0) B dX11_existingRide_0 1 rfl rfl ?_
  refine zk_if_lt (tgt := 21) (pc := 1) B dX11_existingRide_1 (by decide) (fun _ => ?_) (fun _ => ?_)
  · refine zk_sub [] rfl ?_
    exact J21
  · refine zk_iload_n (pc := 4) B dX11_existingRide_4 1 rfl rfl ?_
    refine zk_aload_n (pc := 5) B dX11_existingRide_5 0 rfl rfl ?_
    refine zk_getr (pc := 6) B kx_11 (gSys_s hG) 6 (by decide) kf_11_36 rfl (gSys_f6 hG) dX11_existingRide_6 ?_
    refine zk_geti (pc := 9) B kx_0 (gDesk_s (gSys_t6 hG)) 4 (by decide) kf_11_187 rfl dX11_existingRide_9 ?_
    refine zk_icmp_ge (tgt := 21) (pc := 12) B dX11_existingRide_12 (by decide) (fun _ => ?_) (fun _ => ?_)
    · refine zk_sub [] rfl ?_
      exact J21
    · refine zk_iload_n (pc := 15) B dX11_existingRide_15 1 rfl rfl ?_
      refine zk_bipush (v := 24) (pc := 16) B dX11_existingRide_16 (by decide) ?_
      refine zk_icmp_lt (tgt := 32) (pc := 18) B dX11_existingRide_18 (by decide) (fun _ => ?_) (fun _ => ?_)
      · refine zk_aload_n (pc := 32) B dX11_existingRide_32 0 rfl rfl ?_
        refine zk_getr (pc := 33) B kx_11 (gSys_s hG) 6 (by decide) kf_11_36 rfl (gSys_f6 hG) dX11_existingRide_33 ?_
        refine zk_getr (pc := 36) B kx_0 (gDesk_s (gSys_t6 hG)) 7 (by decide) kf_11_395 rfl (gDesk_f7 (gSys_t6 hG)) dX11_existingRide_36 ?_
        refine zk_iload_n (pc := 39) B dX11_existingRide_39 1 rfl rfl ?_
        refine zk_aald (pc := 40) B (gDesk_t7 (gSys_t6 hG)) (by decide) (by decide) (fun h2 => gDesk_e7 (gSys_t6 hG) _ (z_lt h2)) dX11_existingRide_40 (fun h2 => zk_lr (fun t1 h2e => ?_))
        have ht1 : g_Ride G t1 := by rw [h2e]; exact gDesk_k7 (gSys_t6 hG) _ (z_lt h2)
        exact zk_aret (pc := 41) B dX11_existingRide_41 rfl (Nat.le_of_ble_eq_true rfl) (Nat.le_of_ble_eq_true rfl) rfl
      · refine zk_sub [] rfl ?_
        exact J21
set_option maxHeartbeats 4000000 in
set_option maxRecDepth 100000 in
theorem m_Sys_ride {X : z_X} (hX : z_ok X) {G : z_Gr} {o : Nat} (hG : g_Sys G o) (p0 : Int32) (p1 : Int32) (M : z_Mem) (b : Except Nat Int32) (h : F_Sys_ride o p0 p1 M = some b) : z_Ct X yX11_ride cX11_ride 4 (some .int) ({ frames := 7, cells := 2, slots := 12, locals := 121 } : Room) [.ref o, .int p0, .int p1] G M (fun o9 G9 M9 => G9 = G ∧ (o9, M9) = (z_xi M) b) := by
  refine z_enter hX (by decide) (Nat.le_of_ble_eq_true rfl) h (fun F B hR => ?_)
  show z_K X F 4 2 12 G (z_xi M) b 0 0 0 [(0, .ref o), (1, .int p0), (2, .int p1)] [] M (F_Sys_ride o p0 p1 M)
  unfold F_Sys_ride
  refine zk_aload_n (pc := 0) B dX11_ride_0 0 rfl rfl ?_
  refine zk_iload_n (pc := 1) B dX11_ride_1 1 rfl rfl ?_
  refine zk_cxp (pc := 2) (k' := 1) (n' := 6) B (by decide) rfl rfl (Nat.le_of_ble_eq_true rfl) (Nat.le_of_ble_eq_true rfl) (fun _ => rfl) (fun a => [Value.ref a]) z_xr_1 z_xr_2 z_xr_3 (fun b hb => zr_V B hR kV_yX11_existingRide km_11_289 kx_11 (gSys_s hG) [.int p0] rfl rfl (Nat.le_of_ble_eq_true rfl) dX11_ride_2 (m_Sys_existingRide hX hG p0 M b hb) ⟨Nat.le_of_ble_eq_true rfl, Nat.le_of_ble_eq_true rfl⟩ ⟨Nat.le_of_ble_eq_true rfl, Nat.le_of_ble_eq_true rfl⟩) (fun t1 h2 => ?_)
  have ht1 : g_Ride G t1 := fr_Sys_existingRide hG h2
  refine zk_astore_n (loc' := [(3, .ref t1), (0, .ref o), (1, .int p0), (2, .int p1)]) (pc := 5) B dX11_ride_5 rfl (by decide) rfl ?_
  refine zk_iload_n (pc := 6) B dX11_ride_6 3 rfl rfl ?_
  refine zk_if (fun hs => zk_tin (v := 0) (tgt := 76) (pc := 7) B dX11_ride_7 hs (by decide) (by decide) rfl (by decide) ?_) (fun hn7_0 => ?_)
  · refine zk_aload_n (pc := 76) B dX11_ride_76 0 rfl rfl ?_
    refine zk_geti (pc := 77) B kx_5 (gRide_s ht1) 0 (by decide) kf_11_293 rfl dX11_ride_77 ?_
    exact zk_iret (pc := 80) B dX11_ride_80 rfl rfl (Nat.le_of_ble_eq_true rfl) (Nat.le_of_ble_eq_true rfl) rfl
  · refine zk_if (fun hs => zk_tin (v := 1) (tgt := 81) (pc := 7) B dX11_ride_7 hs (by decide) (by decide) rfl (by decide) ?_) (fun hn7_1 => ?_)
    · refine zk_aload_n (pc := 81) B dX11_ride_81 0 rfl rfl ?_
      refine zk_geti (pc := 82) B kx_5 (gRide_s ht1) 1 (by decide) kf_11_298 rfl dX11_ride_82 ?_
      exact zk_iret (pc := 85) B dX11_ride_85 rfl rfl (Nat.le_of_ble_eq_true rfl) (Nat.le_of_ble_eq_true rfl) rfl
    · refine zk_if (fun hs => zk_tin (v := 2) (tgt := 86) (pc := 7) B dX11_ride_7 hs (by decide) (by decide) rfl (by decide) ?_) (fun hn7_2 => ?_)
      · refine zk_aload_n (pc := 86) B dX11_ride_86 0 rfl rfl ?_
        refine zk_geti (pc := 87) B kx_5 (gRide_s ht1) 2 (by decide) kf_11_301 rfl dX11_ride_87 ?_
        exact zk_iret (pc := 90) B dX11_ride_90 rfl rfl (Nat.le_of_ble_eq_true rfl) (Nat.le_of_ble_eq_true rfl) rfl
      · refine zk_if (fun hs => zk_tin (v := 3) (tgt := 91) (pc := 7) B dX11_ride_7 hs (by decide) (by decide) rfl (by decide) ?_) (fun hn7_3 => ?_)
        · refine zk_aload_n (pc := 91) B dX11_ride_91 0 rfl rfl ?_
          refine zk_geti (pc := 92) B kx_5 (gRide_s ht1) 3 (by decide) kf_11_304 rfl dX11_ride_92 ?_
          exact zk_iret (pc := 95) B dX11_ride_95 rfl rfl (Nat.le_of_ble_eq_true rfl) (Nat.le_of_ble_eq_true rfl) rfl
        · refine zk_if (fun hs => zk_tin (v := 4) (tgt := 96) (pc := 7) B dX11_ride_7 hs (by decide) (by decide) rfl (by decide) ?_) (fun hn7_4 => ?_)
          · refine zk_aload_n (pc := 96) B dX11_ride_96 0 rfl rfl ?_
            refine zk_geti (pc := 97) B kx_5 (gRide_s ht1) 4 (by decide) kf_11_307 rfl dX11_ride_97 ?_
            exact zk_iret (pc := 100) B dX11_ride_100 rfl rfl (Nat.le_of_ble_eq_true rfl) (Nat.le_of_ble_eq_true rfl) rfl
          · refine zk_if (fun hs => zk_tin (v := 5) (tgt := 101) (pc := 7) B dX11_ride_7 hs (by decide) (by decide) rfl (by decide) ?_) (fun hn7_5 => ?_)
            · refine zk_aload_n (pc := 101) B dX11_ride_101 0 rfl rfl ?_
              refine zk_geti (pc := 102) B kx_5 (gRide_s ht1) 5 (by decide) kf_11_310 rfl dX11_ride_102 ?_
              exact zk_iret (pc := 105) B dX11_ride_105 rfl rfl (Nat.le_of_ble_eq_true rfl) (Nat.le_of_ble_eq_true rfl) rfl
            · refine zk_if (fun hs => zk_tin (v := 6) (tgt := 106) (pc := 7) B dX11_ride_7 hs (by decide) (by decide) rfl (by decide) ?_) (fun hn7_6 => ?_)
              · refine zk_aload_n (pc := 106) B dX11_ride_106 0 rfl rfl ?_
                refine zk_geti (pc := 107) B kx_5 (gRide_s ht1) 6 (by decide) kf_11_313 rfl dX11_ride_107 ?_
                exact zk_iret (pc := 110) B dX11_ride_110 rfl rfl (Nat.le_of_ble_eq_true rfl) (Nat.le_of_ble_eq_true rfl) rfl
              · refine zk_if (fun hs => zk_tin (v := 7) (tgt := 111) (pc := 7) B dX11_ride_7 hs (by decide) (by decide) rfl (by decide) ?_) (fun hn7_7 => ?_)
                · refine zk_aload_n (pc := 111) B dX11_ride_111 0 rfl rfl ?_
                  refine zk_geti (pc := 112) B kx_5 (gRide_s ht1) 7 (by decide) kf_11_316 rfl dX11_ride_112 ?_
                  exact zk_iret (pc := 115) B dX11_ride_115 rfl rfl (Nat.le_of_ble_eq_true rfl) (Nat.le_of_ble_eq_true rfl) rfl
                · refine zk_if (fun hs => zk_tin (v := 8) (tgt := 116) (pc := 7) B dX11_ride_7 hs (by decide) (by decide) rfl (by decide) ?_) (fun hn7_8 => ?_)
                  · refine zk_aload_n (pc := 116) B dX11_ride_116 0 rfl rfl ?_
                    refine zk_geti (pc := 117) B kx_5 (gRide_s ht1) 8 (by decide) kf_11_319 rfl dX11_ride_117 ?_
                    exact zk_iret (pc := 120) B dX11_ride_120 rfl rfl (Nat.le_of_ble_eq_true rfl) (Nat.le_of_ble_eq_true rfl) rfl
                  · refine zk_if (fun hs => zk_tin (v := 9) (tgt := 121) (pc := 7) B dX11_ride_7 hs (by decide) (by decide) rfl (by decide) ?_) (fun hn7_9 => ?_)
                    · refine zk_aload_n (pc := 121) B dX11_ride_121 0 rfl rfl ?_
                      refine zk_geti (pc := 122) B kx_5 (gRide_s ht1) 9 (by decide) kf_11_322 rfl dX11_ride_122 ?_
                      exact zk_iret (pc := 125) B dX11_ride_125 rfl rfl (Nat.le_of_ble_eq_true rfl) (Nat.le_of_ble_eq_true rfl) rfl
                    · refine zk_if (fun hs => zk_tin (v := 10) (tgt := 126) (pc := 7) B dX11_ride_7 hs (by decide) (by decide) rfl (by decide) ?_) (fun hn7_10 => ?_)
                      · refine zk_aload_n (pc := 126) B dX11_ride_126 0 rfl rfl ?_
                        refine zk_geti (pc := 127) B kx_5 (gRide_s ht1) 10 (by decide) kf_11_325 rfl dX11_ride_127 ?_
                        exact zk_iret (pc := 130) B dX11_ride_130 rfl rfl (Nat.le_of_ble_eq_true rfl) (Nat.le_of_ble_eq_true rfl) rfl
                      · refine zk_if (fun hs => zk_tin (v := 11) (tgt := 131) (pc := 7) B dX11_ride_7 hs (by decide) (by decide) rfl (by decide) ?_) (fun hn7_11 => ?_)
                        · refine zk_aload_n (pc := 131) B dX11_ride_131 0 rfl rfl ?_
                          refine zk_geti (pc := 132) B kx_5 (gRide_s ht1) 11 (by decide) kf_11_328 rfl dX11_ride_132 ?_
                          exact zk_iret (pc := 135) B dX11_ride_135 rfl rfl (Nat.le_of_ble_eq_true rfl) (Nat.le_of_ble_eq_true rfl) rfl
                        · refine zk_if (fun hs => zk_tin (v := 12) (tgt := 136) (pc := 7) B dX11_ride_7 hs (by decide) (by decide) rfl (by decide) ?_) (fun hn7_12 => ?_)
                          · refine zk_aload_n (pc := 136) B dX11_ride_136 0 rfl rfl ?_
                            refine zk_geti (pc := 137) B kx_5 (gRide_s ht1) 12 (by decide) kf_11_331 rfl dX11_ride_137 ?_
                            exact zk_iret (pc := 140) B dX11_ride_140 rfl rfl (Nat.le_of_ble_eq_true rfl) (Nat.le_of_ble_eq_true rfl) rfl
                          · refine zk_if (fun hs => zk_tin (v := 13) (tgt := 141) (pc := 7) B dX11_ride_7 hs (by decide) (by decide) rfl (by decide) ?_) (fun hn7_13 => ?_)
                            · refine zk_aload_n (pc := 141) B dX11_ride_141 0 rfl rfl ?_
                              refine zk_geti (pc := 142) B kx_5 (gRide_s ht1) 13 (by decide) kf_11_334 rfl dX11_ride_142 ?_
                              refine zk_if_eq (tgt := 152) (pc := 145) B dX11_ride_145 (by decide) (fun _ => ?_) (fun _ => ?_)
                              · refine zk_iconst (v := 0) (pc := 152) B dX11_ride_152 (by decide) ?_
                                exact zk_iret (pc := 153) B dX11_ride_153 rfl rfl (Nat.le_of_ble_eq_true rfl) (Nat.le_of_ble_eq_true rfl) rfl
                              · refine zk_iconst (v := 1) (pc := 148) B dX11_ride_148 (by decide) ?_
                                refine zk_goto (tgt := 153) (pc := 149) B dX11_ride_149 (by decide) ?_
                                exact zk_iret (pc := 153) B dX11_ride_153 rfl rfl (Nat.le_of_ble_eq_true rfl) (Nat.le_of_ble_eq_true rfl) rfl
                            · refine zk_tout (pc := 7)  (tgt := 154) B dX11_ride_7 (by have q0 := z_ne hn7_0 (z := 0) (by decide); have q1 := z_ne hn7_1 (z := 1) (by decide); have q2 := z_ne hn7_2 (z := 2) (by decide); have q3 := z_ne hn7_3 (z := 3) (by decide); have q4 := z_ne hn7_4 (z := 4) (by decide); have q5 := z_ne hn7_5 (z := 5) (by decide); have q6 := z_ne hn7_6 (z := 6) (by decide); have q7 := z_ne hn7_7 (z := 7) (by decide); have q8 := z_ne hn7_8 (z := 8) (by decide); have q9 := z_ne hn7_9 (z := 9) (by decide); have q10 := z_ne hn7_10 (z := 10) (by decide); have q11 := z_ne hn7_11 (z := 11) (by decide); have q12 := z_ne hn7_12 (z := 12) (by decide); have q13 := z_ne hn7_13 (z := 13) (by decide); omega) (by decide) ?_
                              exact zk_throw1w (pc := 154) B hR 205 337 (text := "no such property of a ride") kk_11_205 ki_e1 (by decide +kernel) dX11_ride_154 dX11_ride_157 dX11_ride_158 dX11_ride_161 dX11_ride_164 (Nat.le_of_ble_eq_true rfl) (Nat.le_of_ble_eq_true rfl) (Nat.le_of_ble_eq_true rfl) (Nat.le_of_ble_eq_true rfl) (Nat.le_of_ble_eq_true rfl) (Nat.le_of_ble_eq_true rfl) rfl
set_option maxHeartbeats 4000000 in
set_option maxRecDepth 100000 in
theorem m_Sys_offer {X : z_X} (hX : z_ok X) {G : z_Gr} {o : Nat} (hG : g_Sys G o) (p0 : Int32) (p1 : Int32) (M : z_Mem) (b : Except Nat Int32) (h : F_Sys_offer o p0 p1 M = some b) : z_Ct X yX11_offer cX11_offer 4 (some .int) ({ frames := 7, cells := 2, slots := 12, locals := 121 } : Room) [.ref o, .int p0, .int p1] G M (fun o9 G9 M9 => G9 = G ∧ (o9, M9) = (z_xi M) b) := by
  refine z_enter hX (by decide) (Nat.le_of_ble_eq_true rfl) h (fun F B hR => ?_)
  have J15 : z_K X F 4 2 12 G (z_xi M) b 1 6 15 [] [] M (F_Sys_offer_J15 o M) := by
    unfold F_Sys_offer_J15
    exact zk_throw1w (pc := 15) B hR 205 339 (text := "no such property of an offer") kk_11_205 ki_e1 (by decide +kernel) dX11_offer_15 dX11_offer_18 dX11_offer_19 dX11_offer_22 dX11_offer_25 (Nat.le_of_ble_eq_true rfl) (Nat.le_of_ble_eq_true rfl) (Nat.le_of_ble_eq_true rfl) (Nat.le_of_ble_eq_true rfl) (Nat.le_of_ble_eq_true rfl) (Nat.le_of_ble_eq_true rfl) rfl
  show z_K X F 4 2 12 G (z_xi M) b 0 0 0 [(0, .ref o), (1, .int p0), (2, .int p1)] [] M (F_Sys_offer o p0 p1 M)
  unfold F_Sys_offer
  refine zk_aload_n (pc := 0) B dX11_offer_0 0 rfl rfl ?_
  refine zk_iload_n (pc := 1) B dX11_offer_1 1 rfl rfl ?_
  refine zk_cxp (pc := 2) (k' := 1) (n' := 6) B (by decide) rfl rfl (Nat.le_of_ble_eq_true rfl) (Nat.le_of_ble_eq_true rfl) (fun _ => rfl) (fun a => [Value.ref a]) z_xr_1 z_xr_2 z_xr_3 (fun b hb => zr_V B hR kV_yX11_existingRide km_11_289 kx_11 (gSys_s hG) [.int p0] rfl rfl (Nat.le_of_ble_eq_true rfl) dX11_offer_2 (m_Sys_existingRide hX hG p0 M b hb) ⟨Nat.le_of_ble_eq_true rfl, Nat.le_of_ble_eq_true rfl⟩ ⟨Nat.le_of_ble_eq_true rfl, Nat.le_of_ble_eq_true rfl⟩) (fun t1 h2 => ?_)
  have ht1 : g_Ride G t1 := fr_Sys_existingRide hG h2
  refine zk_astore_n (loc' := [(3, .ref t1), (0, .ref o), (1, .int p0), (2, .int p1)]) (pc := 5) B dX11_offer_5 rfl (by decide) rfl ?_
  refine zk_iload_n (pc := 6) B dX11_offer_6 3 rfl rfl ?_
  refine zk_if_lt (tgt := 15) (pc := 7) B dX11_offer_7 (by decide) (fun _ => ?_) (fun _ => ?_)
  · refine zk_sub [] rfl ?_
    exact J15
  · refine zk_iload_n (pc := 10) B dX11_offer_10 3 rfl rfl ?_
    refine zk_iconst (v := 4) (pc := 11) B dX11_offer_11 (by decide) ?_
    refine zk_icmp_le (tgt := 26) (pc := 12) B dX11_offer_12 (by decide) (fun _ => ?_) (fun _ => ?_)
    · refine zk_aload_n (pc := 26) B dX11_offer_26 0 rfl rfl ?_
      refine zk_geti (pc := 27) B kx_5 (gRide_s ht1) 0 (by decide) kf_11_293 rfl dX11_offer_27 ?_
      refine zk_if_eq (tgt := 35) (pc := 30) B dX11_offer_30 (by decide) (fun _ => ?_) (fun _ => ?_)
      · refine zk_iload_n (pc := 35) B dX11_offer_35 3 rfl rfl ?_
        refine zk_if (fun hs => zk_tin (v := 0) (tgt := 68) (pc := 36) B dX11_offer_36 hs (by decide) (by decide) rfl (by decide) ?_) (fun hn36_0 => ?_)
        · refine zk_aload_n (pc := 68) B dX11_offer_68 0 rfl rfl ?_
          refine zk_geti (pc := 69) B kx_5 (gRide_s ht1) 14 (by decide) kf_11_341 rfl dX11_offer_69 ?_
          exact zk_iret (pc := 72) B dX11_offer_72 rfl rfl (Nat.le_of_ble_eq_true rfl) (Nat.le_of_ble_eq_true rfl) rfl
        · refine zk_if (fun hs => zk_tin (v := 1) (tgt := 73) (pc := 36) B dX11_offer_36 hs (by decide) (by decide) rfl (by decide) ?_) (fun hn36_1 => ?_)
          · refine zk_aload_n (pc := 73) B dX11_offer_73 0 rfl rfl ?_
            refine zk_geti (pc := 74) B kx_5 (gRide_s ht1) 15 (by decide) kf_11_344 rfl dX11_offer_74 ?_
            exact zk_iret (pc := 77) B dX11_offer_77 rfl rfl (Nat.le_of_ble_eq_true rfl) (Nat.le_of_ble_eq_true rfl) rfl
          · refine zk_if (fun hs => zk_tin (v := 2) (tgt := 78) (pc := 36) B dX11_offer_36 hs (by decide) (by decide) rfl (by decide) ?_) (fun hn36_2 => ?_)
            · refine zk_aload_n (pc := 78) B dX11_offer_78 0 rfl rfl ?_
              refine zk_geti (pc := 79) B kx_5 (gRide_s ht1) 16 (by decide) kf_11_347 rfl dX11_offer_79 ?_
              exact zk_iret (pc := 82) B dX11_offer_82 rfl rfl (Nat.le_of_ble_eq_true rfl) (Nat.le_of_ble_eq_true rfl) rfl
            · refine zk_if (fun hs => zk_tin (v := 3) (tgt := 83) (pc := 36) B dX11_offer_36 hs (by decide) (by decide) rfl (by decide) ?_) (fun hn36_3 => ?_)
              · refine zk_aload_n (pc := 83) B dX11_offer_83 0 rfl rfl ?_
                refine zk_geti (pc := 84) B kx_5 (gRide_s ht1) 17 (by decide) kf_11_350 rfl dX11_offer_84 ?_
                exact zk_iret (pc := 87) B dX11_offer_87 rfl rfl (Nat.le_of_ble_eq_true rfl) (Nat.le_of_ble_eq_true rfl) rfl
              · refine zk_tout (pc := 36)  (tgt := 88) B dX11_offer_36 (by have q0 := z_ne hn36_0 (z := 0) (by decide); have q1 := z_ne hn36_1 (z := 1) (by decide); have q2 := z_ne hn36_2 (z := 2) (by decide); have q3 := z_ne hn36_3 (z := 3) (by decide); omega) (by decide) ?_
                refine zk_aload_n (pc := 88) B dX11_offer_88 0 rfl rfl ?_
                refine zk_geti (pc := 89) B kx_5 (gRide_s ht1) 18 (by decide) kf_11_353 rfl dX11_offer_89 ?_
                exact zk_iret (pc := 92) B dX11_offer_92 rfl rfl (Nat.le_of_ble_eq_true rfl) (Nat.le_of_ble_eq_true rfl) rfl
      · refine zk_iconst (v := (-1)) (pc := 33) B dX11_offer_33 (by decide) ?_
        exact zk_iret (pc := 34) B dX11_offer_34 rfl rfl (Nat.le_of_ble_eq_true rfl) (Nat.le_of_ble_eq_true rfl) rfl
    · refine zk_sub [] rfl ?_
      exact J15
set_option maxHeartbeats 4000000 in
set_option maxRecDepth 100000 in
theorem m_Sys_extra {X : z_X} (hX : z_ok X) {G : z_Gr} {o : Nat} (hG : g_Sys G o) (p0 : Int32) (p1 : Int32) (M : z_Mem) (b : Except Nat Int32 × z_Mem) (h : F_Sys_extra o p0 p1 M = some b) : z_Ct X yX11_extra cX11_extra 5 (some .int) ({ frames := 7, cells := 2, slots := 12, locals := 139 } : Room) [.ref o, .int p0, .int p1] G M (fun o9 G9 M9 => G9 = G ∧ (o9, M9) = z_xim b) := by
  refine z_enter hX (by decide) (Nat.le_of_ble_eq_true rfl) h (fun F B hR => ?_)
  show z_K X F 5 2 12 G z_xim b 0 0 0 [(0, .ref o), (1, .int p0), (2, .int p1)] [] M (F_Sys_extra o p0 p1 M)
  unfold F_Sys_extra
  refine zk_aload_n (pc := 0) B dX11_extra_0 0 rfl rfl ?_
  refine zk_iload_n (pc := 1) B dX11_extra_1 1 rfl rfl ?_
  refine zk_cxm (pc := 2) (k' := 1) (n' := 6) B (by decide) rfl rfl (Nat.le_of_ble_eq_true rfl) (Nat.le_of_ble_eq_true rfl) (fun _ => rfl) (fun a => [Value.ref a]) z_xr_1 z_xr_2 z_xr_3 (fun b hb => zr_V B hR kV_yX11_existingRide km_11_289 kx_11 (gSys_s hG) [.int p0] rfl rfl (Nat.le_of_ble_eq_true rfl) dX11_extra_2 (m_Sys_existingRide hX hG p0 M b hb) ⟨Nat.le_of_ble_eq_true rfl, Nat.le_of_ble_eq_true rfl⟩ ⟨Nat.le_of_ble_eq_true rfl, Nat.le_of_ble_eq_true rfl⟩) (fun t1 h2 => ?_)
  have ht1 : g_Ride G t1 := fr_Sys_existingRide hG h2
  refine zk_astore_n (loc' := [(3, .ref t1), (0, .ref o), (1, .int p0), (2, .int p1)]) (pc := 5) B dX11_extra_5 rfl (by decide) rfl ?_
  refine zk_aload_n (pc := 6) B dX11_extra_6 1 rfl rfl ?_
  refine zk_iload_n (pc := 7) B dX11_extra_7 3 rfl rfl ?_
  refine zk_cxm (pc := 8) (k' := 2) (n' := 12) B (by decide) rfl rfl (Nat.le_of_ble_eq_true rfl) (Nat.le_of_ble_eq_true rfl) (fun _ => rfl) (fun a => [Value.ref a]) z_xr_1 z_xr_2 z_xr_3 (fun b hb => zr_V B hR kV_yX11_existingTaxi km_11_152 kx_11 (gSys_s hG) [.int p1] rfl rfl (Nat.le_of_ble_eq_true rfl) dX11_extra_8 (m_Sys_existingTaxi hX hG p1 M b hb) ⟨Nat.le_of_ble_eq_true rfl, Nat.le_of_ble_eq_true rfl⟩ ⟨Nat.le_of_ble_eq_true rfl, Nat.le_of_ble_eq_true rfl⟩) (fun t3 h4 => ?_)
  have ht3 : g_Taxi G t3 := fr_Sys_existingTaxi hG h4
  refine zk_astore (loc' := [(4, .ref t3), (3, .ref t1), (0, .ref o), (1, .int p0), (2, .int p1)]) (pc := 11) B dX11_extra_11 (by decide) rfl ?_
  refine zk_aload_n (pc := 13) B dX11_extra_13 1 rfl rfl ?_
  refine zk_geti (pc := 14) B kx_5 (gRide_s ht1) 0 (by decide) kf_11_293 rfl dX11_extra_14 ?_
  refine zk_if_ne (tgt := 33) (pc := 17) B dX11_extra_17 (by decide) (fun _ => ?_) (fun _ => ?_)
  · refine zk_iconst (v := (-1)) (pc := 33) B dX11_extra_33 (by decide) ?_
    exact zk_iret (pc := 34) B dX11_extra_34 rfl rfl (Nat.le_of_ble_eq_true rfl) (Nat.le_of_ble_eq_true rfl) rfl
  · refine zk_aload_n (pc := 20) B dX11_extra_20 2 rfl rfl ?_
    refine zk_getr (pc := 21) B kx_11 (gSys_s hG) 11 (by decide) kf_11_68 rfl (gSys_f11 hG) dX11_extra_21 ?_
    refine zk_aload (pc := 24) B dX11_extra_24 0 rfl ?_
    refine zk_iload_n (pc := 26) B dX11_extra_26 3 rfl rfl ?_
    refine zk_cim (pc := 27) (k' := 2) (n' := 12) B rfl rfl (Nat.le_of_ble_eq_true rfl) (Nat.le_of_ble_eq_true rfl) (fun b hb => zr_V B hR kV_yX2_findBest km_11_356 kx_2 (gInsertion_s hG) [.ref t3, .int p0] rfl rfl (Nat.le_of_ble_eq_true rfl) dX11_extra_27 (m_Insertion_findBest hX hG ht3 p0 M b hb) ⟨Nat.le_of_ble_eq_true rfl, Nat.le_of_ble_eq_true rfl⟩ ⟨Nat.le_of_ble_eq_true rfl, Nat.le_of_ble_eq_true rfl⟩) (fun x6 M5 => ?_)
    refine zk_if_ne (tgt := 35) (pc := 30) B dX11_extra_30 (by decide) (fun _ => ?_) (fun _ => ?_)
    · refine zk_aload_n (pc := 35) B dX11_extra_35 2 rfl rfl ?_
      refine zk_getr (pc := 36) B kx_11 (gSys_s hG) 11 (by decide) kf_11_68 rfl (gSys_f11 hG) dX11_extra_36 ?_
      refine zk_geti (pc := 39) B kx_2 (gInsertion_s hG) 0 (by decide) kf_11_360 rfl dX11_extra_39 ?_
      exact zk_iret (pc := 42) B dX11_extra_42 rfl rfl (Nat.le_of_ble_eq_true rfl) (Nat.le_of_ble_eq_true rfl) rfl
    · refine zk_iconst (v := (-1)) (pc := 33) B dX11_extra_33 (by decide) ?_
      exact zk_iret (pc := 34) B dX11_extra_34 rfl rfl (Nat.le_of_ble_eq_true rfl) (Nat.le_of_ble_eq_true rfl) rfl
set_option maxHeartbeats 4000000 in
set_option maxRecDepth 100000 in
theorem m_Sys_fare {X : z_X} (hX : z_ok X) {G : z_Gr} {o : Nat} (hG : g_Sys G o) (p0 : Int32) (M : z_Mem) (b : Except Nat Int32 × z_Mem) (h : F_Sys_fare o p0 M = some b) : z_Ct X yX11_fare cX11_fare 4 (some .int) ({ frames := 7, cells := 1, slots := 6, locals := 121 } : Room) [.ref o, .int p0] G M (fun o9 G9 M9 => G9 = G ∧ (o9, M9) = z_xim b) := by
  refine z_enter hX (by decide) (Nat.le_of_ble_eq_true rfl) h (fun F B hR => ?_)
  have J27 : ∀ (v1 : Int32) (u2 : Nat) (hu2 : g_Ride G u2) (s0 : Int32) (M : z_Mem), z_K X F 4 1 6 G z_xim b 1 6 27 [(0, .ref o), (1, .int v1), (2, .ref u2)] [.int s0] M (F_Sys_fare_J27 o v1 u2 s0 M) := by
    intro v1 u2 hu2 s0 M
    unfold F_Sys_fare_J27
    refine zk_istore_n (loc' := [(3, .int s0), (0, .ref o), (1, .int v1), (2, .ref u2)]) (pc := 27) B dX11_fare_27 rfl (by decide) rfl ?_
    refine zk_iload_n (pc := 28) B dX11_fare_28 0 rfl rfl ?_
    refine zk_if_eq (tgt := 53) (pc := 29) B dX11_fare_29 (by decide) (fun _ => ?_) (fun _ => ?_)
    · refine zk_iconst (v := (-1)) (pc := 53) B dX11_fare_53 (by decide) ?_
      exact zk_iret (pc := 54) B dX11_fare_54 rfl rfl (Nat.le_of_ble_eq_true rfl) (Nat.le_of_ble_eq_true rfl) rfl
    · refine zk_aload_n (pc := 32) B dX11_fare_32 3 rfl rfl ?_
      refine zk_geti (pc := 33) B kx_5 (gRide_s hu2) 13 (by decide) kf_11_334 rfl dX11_fare_33 ?_
      refine zk_if_ne (tgt := 53) (pc := 36) B dX11_fare_36 (by decide) (fun _ => ?_) (fun _ => ?_)
      · refine zk_iconst (v := (-1)) (pc := 53) B dX11_fare_53 (by decide) ?_
        exact zk_iret (pc := 54) B dX11_fare_54 rfl rfl (Nat.le_of_ble_eq_true rfl) (Nat.le_of_ble_eq_true rfl) rfl
      · refine zk_aload_n (pc := 39) B dX11_fare_39 1 rfl rfl ?_
        refine zk_getr (pc := 40) B kx_11 (gSys_s hG) 6 (by decide) kf_11_36 rfl (gSys_f6 hG) dX11_fare_40 ?_
        refine zk_aload_n (pc := 43) B dX11_fare_43 3 rfl rfl ?_
        refine zk_geti (pc := 44) B kx_5 (gRide_s hu2) 9 (by decide) kf_11_322 rfl dX11_fare_44 ?_
        refine zk_cpi (pc := 47) (k' := 1) (n' := 6) B rfl rfl (Nat.le_of_ble_eq_true rfl) (Nat.le_of_ble_eq_true rfl) (fun b hb => zr_V B hR kV_yX0_hasTaxi km_11_363 kx_0 (gDesk_s (gSys_t6 hG)) [.int (M.1 u2 9)] rfl rfl (Nat.le_of_ble_eq_true rfl) dX11_fare_47 (m_Desk_hasTaxi hX (gSys_t6 hG) (M.1 u2 9) M b hb) ⟨Nat.le_of_ble_eq_true rfl, Nat.le_of_ble_eq_true rfl⟩ ⟨Nat.le_of_ble_eq_true rfl, Nat.le_of_ble_eq_true rfl⟩) (fun x3 _ => ?_)
        refine zk_if_ne (tgt := 55) (pc := 50) B dX11_fare_50 (by decide) (fun _ => ?_) (fun _ => ?_)
        · refine zk_aload_n (pc := 55) B dX11_fare_55 1 rfl rfl ?_
          refine zk_getr (pc := 56) B kx_11 (gSys_s hG) 12 (by decide) kf_11_77 rfl (gSys_f12 hG) dX11_fare_56 ?_
          refine zk_aload_n (pc := 59) B dX11_fare_59 1 rfl rfl ?_
          refine zk_getr (pc := 60) B kx_11 (gSys_s hG) 6 (by decide) kf_11_36 rfl (gSys_f6 hG) dX11_fare_60 ?_
          refine zk_getr (pc := 63) B kx_0 (gDesk_s (gSys_t6 hG)) 6 (by decide) kf_11_366 rfl (gDesk_f6 (gSys_t6 hG)) dX11_fare_63 ?_
          refine zk_aload_n (pc := 66) B dX11_fare_66 3 rfl rfl ?_
          refine zk_geti (pc := 67) B kx_5 (gRide_s hu2) 9 (by decide) kf_11_322 rfl dX11_fare_67 ?_
          refine zk_aald (pc := 70) B (gDesk_t6 (gSys_t6 hG)) (by decide) (by decide) (fun h5 => gDesk_e6 (gSys_t6 hG) _ (z_lt h5)) dX11_fare_70 (fun h5 => zk_lr (fun t4 h5e => ?_))
          have ht4 : g_Taxi G t4 := by rw [h5e]; exact gDesk_k6 (gSys_t6 hG) _ (z_lt h5)
          refine zk_iload_n (pc := 71) B dX11_fare_71 2 rfl rfl ?_
          refine zk_cim (pc := 72) (k' := 1) (n' := 6) B rfl rfl (Nat.le_of_ble_eq_true rfl) (Nat.le_of_ble_eq_true rfl) (fun b hb => zr_V B hR kV_yX10_fareAtDrop km_11_370 kx_10 (gTraffic_s hG) [.ref t4, .int v1] rfl rfl (Nat.le_of_ble_eq_true rfl) dX11_fare_72 (m_Traffic_fareAtDrop hX hG ht4 v1 M b hb) ⟨Nat.le_of_ble_eq_true rfl, Nat.le_of_ble_eq_true rfl⟩ ⟨Nat.le_of_ble_eq_true rfl, Nat.le_of_ble_eq_true rfl⟩) (fun x7 M6 => ?_)
          exact zk_iret (pc := 75) B dX11_fare_75 rfl rfl (Nat.le_of_ble_eq_true rfl) (Nat.le_of_ble_eq_true rfl) rfl
        · refine zk_iconst (v := (-1)) (pc := 53) B dX11_fare_53 (by decide) ?_
          exact zk_iret (pc := 54) B dX11_fare_54 rfl rfl (Nat.le_of_ble_eq_true rfl) (Nat.le_of_ble_eq_true rfl) rfl
  have J22 : ∀ (v1 : Int32) (u2 : Nat) (hu2 : g_Ride G u2) (M : z_Mem), z_K X F 4 1 6 G z_xim b 1 6 22 [(0, .ref o), (1, .int v1), (2, .ref u2)] [] M (F_Sys_fare_J22 o v1 u2 M) := by
    intro v1 u2 hu2 M
    unfold F_Sys_fare_J22
    refine zk_iconst (v := 1) (pc := 22) B dX11_fare_22 (by decide) ?_
    refine zk_goto (tgt := 27) (pc := 23) B dX11_fare_23 (by decide) ?_
    exact J27 v1 u2 hu2 1 M
  show z_K X F 4 1 6 G z_xim b 0 0 0 [(0, .ref o), (1, .int p0)] [] M (F_Sys_fare o p0 M)
  unfold F_Sys_fare
  refine zk_aload_n (pc := 0) B dX11_fare_0 0 rfl rfl ?_
  refine zk_iload_n (pc := 1) B dX11_fare_1 1 rfl rfl ?_
  refine zk_cxm (pc := 2) (k' := 1) (n' := 6) B (by decide) rfl rfl (Nat.le_of_ble_eq_true rfl) (Nat.le_of_ble_eq_true rfl) (fun _ => rfl) (fun a => [Value.ref a]) z_xr_1 z_xr_2 z_xr_3 (fun b hb => zr_V B hR kV_yX11_existingRide km_11_289 kx_11 (gSys_s hG) [.int p0] rfl rfl (Nat.le_of_ble_eq_true rfl) dX11_fare_2 (m_Sys_existingRide hX hG p0 M b hb) ⟨Nat.le_of_ble_eq_true rfl, Nat.le_of_ble_eq_true rfl⟩ ⟨Nat.le_of_ble_eq_true rfl, Nat.le_of_ble_eq_true rfl⟩) (fun t1 h2 => ?_)
  have ht1 : g_Ride G t1 := fr_Sys_existingRide hG h2
  refine zk_astore_n (loc' := [(2, .ref t1), (0, .ref o), (1, .int p0)]) (pc := 5) B dX11_fare_5 rfl (by decide) rfl ?_
  refine zk_aload_n (pc := 6) B dX11_fare_6 0 rfl rfl ?_
  refine zk_geti (pc := 7) B kx_5 (gRide_s ht1) 0 (by decide) kf_11_293 rfl dX11_fare_7 ?_
  refine zk_iconst (v := 1) (pc := 10) B dX11_fare_10 (by decide) ?_
  refine zk_icmp_eq (tgt := 22) (pc := 11) B dX11_fare_11 (by decide) (fun _ => ?_) (fun _ => ?_)
  · refine zk_sub [1, 2, 0] rfl ?_
    exact J22 p0 t1 ht1 M
  · refine zk_aload_n (pc := 14) B dX11_fare_14 0 rfl rfl ?_
    refine zk_geti (pc := 15) B kx_5 (gRide_s ht1) 0 (by decide) kf_11_293 rfl dX11_fare_15 ?_
    refine zk_iconst (v := 2) (pc := 18) B dX11_fare_18 (by decide) ?_
    refine zk_icmp_ne (tgt := 26) (pc := 19) B dX11_fare_19 (by decide) (fun _ => ?_) (fun _ => ?_)
    · refine zk_iconst (v := 0) (pc := 26) B dX11_fare_26 (by decide) ?_
      refine zk_sub [1, 2, 0] rfl ?_
      exact J27 p0 t1 ht1 0 M
    · refine zk_sub [1, 2, 0] rfl ?_
      exact J22 p0 t1 ht1 M
set_option maxHeartbeats 4000000 in
set_option maxRecDepth 100000 in
theorem m_Sys_aloneFare {X : z_X} (hX : z_ok X) {G : z_Gr} {o : Nat} (hG : g_Sys G o) (p0 : Int32) (p1 : Int32) (M : z_Mem) (b : Except Nat Int32) (h : F_Sys_aloneFare o p0 p1 M = some b) : z_Ct X yX11_aloneFare cX11_aloneFare 4 (some .int) ({ frames := 7, cells := 2, slots := 12, locals := 121 } : Room) [.ref o, .int p0, .int p1] G M (fun o9 G9 M9 => G9 = G ∧ (o9, M9) = (z_xi M) b) := by
  refine z_enter hX (by decide) (Nat.le_of_ble_eq_true rfl) h (fun F B hR => ?_)
  show z_K X F 4 2 12 G (z_xi M) b 0 0 0 [(0, .ref o), (1, .int p0), (2, .int p1)] [] M (F_Sys_aloneFare o p0 p1 M)
  unfold F_Sys_aloneFare
  refine zk_aload_n (pc := 0) B dX11_aloneFare_0 0 rfl rfl ?_
  refine zk_iload_n (pc := 1) B dX11_aloneFare_1 1 rfl rfl ?_
  refine zk_cxp (pc := 2) (k' := 1) (n' := 6) B (by decide) rfl rfl (Nat.le_of_ble_eq_true rfl) (Nat.le_of_ble_eq_true rfl) (fun _ => rfl) (fun _ => []) z_xv_1 z_xv_2 z_xv_3 (fun b hb => zr_V B hR kV_yX11_checkZone km_11_216 kx_11 (gSys_s hG) [.int p0] rfl rfl (Nat.le_of_ble_eq_true rfl) dX11_aloneFare_2 (m_Sys_checkZone hX hG p0 M b hb) ⟨Nat.le_of_ble_eq_true rfl, Nat.le_of_ble_eq_true rfl⟩ ⟨Nat.le_of_ble_eq_true rfl, Nat.le_of_ble_eq_true rfl⟩) (fun t1 h2 => ?_)
  refine zk_aload_n (pc := 5) B dX11_aloneFare_5 0 rfl rfl ?_
  refine zk_iload_n (pc := 6) B dX11_aloneFare_6 2 rfl rfl ?_
  refine zk_cxp (pc := 7) (k' := 2) (n' := 12) B (by decide) rfl rfl (Nat.le_of_ble_eq_true rfl) (Nat.le_of_ble_eq_true rfl) (fun _ => rfl) (fun _ => []) z_xv_1 z_xv_2 z_xv_3 (fun b hb => zr_V B hR kV_yX11_checkZone km_11_216 kx_11 (gSys_s hG) [.int p1] rfl rfl (Nat.le_of_ble_eq_true rfl) dX11_aloneFare_7 (m_Sys_checkZone hX hG p1 M b hb) ⟨Nat.le_of_ble_eq_true rfl, Nat.le_of_ble_eq_true rfl⟩ ⟨Nat.le_of_ble_eq_true rfl, Nat.le_of_ble_eq_true rfl⟩) (fun t3 h4 => ?_)
  refine zk_aload_n (pc := 10) B dX11_aloneFare_10 0 rfl rfl ?_
  refine zk_getr (pc := 11) B kx_11 (gSys_s hG) 5 (by decide) kf_11_29 rfl (gSys_f5 hG) dX11_aloneFare_11 ?_
  refine zk_iload_n (pc := 14) B dX11_aloneFare_14 1 rfl rfl ?_
  refine zk_iload_n (pc := 15) B dX11_aloneFare_15 2 rfl rfl ?_
  refine zk_cpi (pc := 16) (k' := 2) (n' := 12) B rfl rfl (Nat.le_of_ble_eq_true rfl) (Nat.le_of_ble_eq_true rfl) (fun b hb => zr_V B hR kV_yX9_wayMinutes km_11_219 kx_9 (gTown_s (gSys_t5 hG)) [.int p0, .int p1] rfl rfl (Nat.le_of_ble_eq_true rfl) dX11_aloneFare_16 (m_Town_wayMinutes hX (gSys_t5 hG) p0 p1 M b hb) ⟨Nat.le_of_ble_eq_true rfl, Nat.le_of_ble_eq_true rfl⟩ ⟨Nat.le_of_ble_eq_true rfl, Nat.le_of_ble_eq_true rfl⟩) (fun x5 _ => ?_)
  refine zk_istore_n (loc' := [(3, .int x5), (0, .ref o), (1, .int p0), (2, .int p1)]) (pc := 19) B dX11_aloneFare_19 rfl (by decide) rfl ?_
  refine zk_iload_n (pc := 20) B dX11_aloneFare_20 0 rfl rfl ?_
  refine zk_iconst (v := (-1)) (pc := 21) B dX11_aloneFare_21 (by decide) ?_
  refine zk_icmp_ne (tgt := 29) (pc := 22) B dX11_aloneFare_22 (by decide) (fun _ => ?_) (fun _ => ?_)
  · refine zk_aload_n (pc := 29) B dX11_aloneFare_29 1 rfl rfl ?_
    refine zk_getr (pc := 30) B kx_11 (gSys_s hG) 6 (by decide) kf_11_36 rfl (gSys_f6 hG) dX11_aloneFare_30 ?_
    refine zk_geti (pc := 33) B kx_0 (gDesk_s (gSys_t6 hG)) 1 (by decide) kf_11_199 rfl dX11_aloneFare_33 ?_
    refine zk_iload_n (pc := 36) B dX11_aloneFare_36 0 rfl rfl ?_
    refine zk_aload_n (pc := 37) B dX11_aloneFare_37 1 rfl rfl ?_
    refine zk_getr (pc := 38) B kx_11 (gSys_s hG) 6 (by decide) kf_11_36 rfl (gSys_f6 hG) dX11_aloneFare_38 ?_
    refine zk_geti (pc := 41) B kx_0 (gDesk_s (gSys_t6 hG)) 2 (by decide) kf_11_202 rfl dX11_aloneFare_41 ?_
    refine zk_imul (pc := 44) B dX11_aloneFare_44 ?_
    refine zk_iadd (pc := 45) B dX11_aloneFare_45 ?_
    exact zk_iret (pc := 46) B dX11_aloneFare_46 rfl rfl (Nat.le_of_ble_eq_true rfl) (Nat.le_of_ble_eq_true rfl) rfl
  · refine zk_iconst (v := (-1)) (pc := 25) B dX11_aloneFare_25 (by decide) ?_
    refine zk_goto (tgt := 46) (pc := 26) B dX11_aloneFare_26 (by decide) ?_
    exact zk_iret (pc := 46) B dX11_aloneFare_46 rfl rfl (Nat.le_of_ble_eq_true rfl) (Nat.le_of_ble_eq_true rfl) rfl
set_option maxHeartbeats 4000000 in
set_option maxRecDepth 100000 in
theorem m_Sys_keeps {X : z_X} (hX : z_ok X) {G : z_Gr} {o : Nat} (hG : g_Sys G o) (p0 : Int32) (M : z_Mem) (b : Except Nat Int32 × z_Mem) (h : F_Sys_keeps o p0 M = some b) : z_Ct X yX11_keeps cX11_keeps 3 (some .boolean) ({ frames := 7, cells := 1, slots := 6, locals := 121 } : Room) [.ref o, .int p0] G M (fun o9 G9 M9 => G9 = G ∧ (o9, M9) = z_xim b) := by
  refine z_enter hX (by decide) (Nat.le_of_ble_eq_true rfl) h (fun F B hR => ?_)
  show z_K X F 3 1 6 G z_xim b 0 0 0 [(0, .ref o), (1, .int p0)] [] M (F_Sys_keeps o p0 M)
  unfold F_Sys_keeps
  refine zk_aload_n (pc := 0) B dX11_keeps_0 0 rfl rfl ?_
  refine zk_iload_n (pc := 1) B dX11_keeps_1 1 rfl rfl ?_
  refine zk_cxm (pc := 2) (k' := 1) (n' := 6) B (by decide) rfl rfl (Nat.le_of_ble_eq_true rfl) (Nat.le_of_ble_eq_true rfl) (fun _ => rfl) (fun a => [Value.ref a]) z_xr_1 z_xr_2 z_xr_3 (fun b hb => zr_V B hR kV_yX11_existingTaxi km_11_152 kx_11 (gSys_s hG) [.int p0] rfl rfl (Nat.le_of_ble_eq_true rfl) dX11_keeps_2 (m_Sys_existingTaxi hX hG p0 M b hb) ⟨Nat.le_of_ble_eq_true rfl, Nat.le_of_ble_eq_true rfl⟩ ⟨Nat.le_of_ble_eq_true rfl, Nat.le_of_ble_eq_true rfl⟩) (fun t1 h2 => ?_)
  have ht1 : g_Taxi G t1 := fr_Sys_existingTaxi hG h2
  refine zk_astore_n (loc' := [(2, .ref t1), (0, .ref o), (1, .int p0)]) (pc := 5) B dX11_keeps_5 rfl (by decide) rfl ?_
  refine zk_aload_n (pc := 6) B dX11_keeps_6 1 rfl rfl ?_
  refine zk_getr (pc := 7) B kx_11 (gSys_s hG) 10 (by decide) kf_11_59 rfl (gSys_f10 hG) dX11_keeps_7 ?_
  refine zk_aload_n (pc := 10) B dX11_keeps_10 0 rfl rfl ?_
  refine zk_cvm (pc := 11) (k' := 1) (n' := 6) B rfl rfl (Nat.le_of_ble_eq_true rfl) (Nat.le_of_ble_eq_true rfl) (fun b hb => zr_V B hR kV_yX3_planRoute km_11_274 kx_3 (gPlan_s hG) [.ref t1] rfl rfl (Nat.le_of_ble_eq_true rfl) dX11_keeps_11 (m_Plan_planRoute hX hG ht1 M b hb) ⟨Nat.le_of_ble_eq_true rfl, Nat.le_of_ble_eq_true rfl⟩ ⟨Nat.le_of_ble_eq_true rfl, Nat.le_of_ble_eq_true rfl⟩) (fun M3 => ?_)
  refine zk_aload_n (pc := 14) B dX11_keeps_14 1 rfl rfl ?_
  refine zk_getr (pc := 15) B kx_11 (gSys_s hG) 10 (by decide) kf_11_59 rfl (gSys_f10 hG) dX11_keeps_15 ?_
  refine zk_aload_n (pc := 18) B dX11_keeps_18 0 rfl rfl ?_
  refine zk_cim (pc := 19) (k' := 1) (n' := 6) B rfl rfl (Nat.le_of_ble_eq_true rfl) (Nat.le_of_ble_eq_true rfl) (fun b hb => zr_V B hR kV_yX3_keepsLimits km_11_374 kx_3 (gPlan_s hG) [.ref t1] rfl rfl (Nat.le_of_ble_eq_true rfl) dX11_keeps_19 (m_Plan_keepsLimits hX hG ht1 M3 b hb) ⟨Nat.le_of_ble_eq_true rfl, Nat.le_of_ble_eq_true rfl⟩ ⟨Nat.le_of_ble_eq_true rfl, Nat.le_of_ble_eq_true rfl⟩) (fun x5 M4 => ?_)
  exact zk_chk (fun h6 => zk_iret (pc := 22) B dX11_keeps_22 rfl (z_n01 h6) (Nat.le_of_ble_eq_true rfl) (Nat.le_of_ble_eq_true rfl) rfl)
set_option maxHeartbeats 4000000 in
set_option maxRecDepth 100000 in
theorem m_Sys_routeMinutes {X : z_X} (hX : z_ok X) {G : z_Gr} {o : Nat} (hG : g_Sys G o) (p0 : Int32) (M : z_Mem) (b : Except Nat Int32 × z_Mem) (h : F_Sys_routeMinutes o p0 M = some b) : z_Ct X yX11_routeMinutes cX11_routeMinutes 2 (some .int) ({ frames := 7, cells := 1, slots := 6, locals := 121 } : Room) [.ref o, .int p0] G M (fun o9 G9 M9 => G9 = G ∧ (o9, M9) = z_xim b) := by
  refine z_enter hX (by decide) (Nat.le_of_ble_eq_true rfl) h (fun F B hR => ?_)
  show z_K X F 2 1 6 G z_xim b 0 0 0 [(0, .ref o), (1, .int p0)] [] M (F_Sys_routeMinutes o p0 M)
  unfold F_Sys_routeMinutes
  refine zk_aload_n (pc := 0) B dX11_routeMinutes_0 0 rfl rfl ?_
  refine zk_getr (pc := 1) B kx_11 (gSys_s hG) 10 (by decide) kf_11_59 rfl (gSys_f10 hG) dX11_routeMinutes_1 ?_
  refine zk_aload_n (pc := 4) B dX11_routeMinutes_4 0 rfl rfl ?_
  refine zk_iload_n (pc := 5) B dX11_routeMinutes_5 1 rfl rfl ?_
  refine zk_cxm (pc := 6) (k' := 1) (n' := 6) B (by decide) rfl rfl (Nat.le_of_ble_eq_true rfl) (Nat.le_of_ble_eq_true rfl) (fun _ => rfl) (fun a => [Value.ref a]) z_xr_1 z_xr_2 z_xr_3 (fun b hb => zr_V B hR kV_yX11_existingTaxi km_11_152 kx_11 (gSys_s hG) [.int p0] rfl rfl (Nat.le_of_ble_eq_true rfl) dX11_routeMinutes_6 (m_Sys_existingTaxi hX hG p0 M b hb) ⟨Nat.le_of_ble_eq_true rfl, Nat.le_of_ble_eq_true rfl⟩ ⟨Nat.le_of_ble_eq_true rfl, Nat.le_of_ble_eq_true rfl⟩) (fun t1 h2 => ?_)
  have ht1 : g_Taxi G t1 := fr_Sys_existingTaxi hG h2
  refine zk_cvm (pc := 9) (k' := 1) (n' := 6) B rfl rfl (Nat.le_of_ble_eq_true rfl) (Nat.le_of_ble_eq_true rfl) (fun b hb => zr_V B hR kV_yX3_planRoute km_11_274 kx_3 (gPlan_s hG) [.ref t1] rfl rfl (Nat.le_of_ble_eq_true rfl) dX11_routeMinutes_9 (m_Plan_planRoute hX hG ht1 M b hb) ⟨Nat.le_of_ble_eq_true rfl, Nat.le_of_ble_eq_true rfl⟩ ⟨Nat.le_of_ble_eq_true rfl, Nat.le_of_ble_eq_true rfl⟩) (fun M3 => ?_)
  refine zk_aload_n (pc := 12) B dX11_routeMinutes_12 0 rfl rfl ?_
  refine zk_getr (pc := 13) B kx_11 (gSys_s hG) 10 (by decide) kf_11_59 rfl (gSys_f10 hG) dX11_routeMinutes_13 ?_
  refine zk_geti (pc := 16) B kx_3 (gPlan_s hG) 0 (by decide) kf_11_378 rfl dX11_routeMinutes_16 ?_
  exact zk_iret (pc := 19) B dX11_routeMinutes_19 rfl rfl (Nat.le_of_ble_eq_true rfl) (Nat.le_of_ble_eq_true rfl) rfl
set_option maxHeartbeats 4000000 in
set_option maxRecDepth 100000 in
theorem m_Sys_rides {X : z_X} (hX : z_ok X) {G : z_Gr} {o : Nat} (hG : g_Sys G o) (p0 : Int32) (M : z_Mem) (b : Except Nat Int32) (h : F_Sys_rides o p0 M = some b) : z_Ct X yX11_rides cX11_rides 2 (some .int) ({ frames := 6, cells := 1, slots := 6, locals := 100 } : Room) [.ref o, .int p0] G M (fun o9 G9 M9 => G9 = G ∧ (o9, M9) = (z_xi M) b) := by
  refine z_enter hX (by decide) (Nat.le_of_ble_eq_true rfl) h (fun F B hR => ?_)
  have J10 : z_K X F 2 1 6 G (z_xi M) b 0 0 10 [] [] M (F_Sys_rides_J10 o M) := by
    unfold F_Sys_rides_J10
    exact zk_throw2w (pc := 10) B hR 117 381 (text := "no such state") kk_11_117 ki_e2 (by decide +kernel) dX11_rides_10 dX11_rides_13 dX11_rides_14 dX11_rides_17 dX11_rides_20 (Nat.le_of_ble_eq_true rfl) (Nat.le_of_ble_eq_true rfl) (Nat.le_of_ble_eq_true rfl) (Nat.le_of_ble_eq_true rfl) (Nat.le_of_ble_eq_true rfl) (Nat.le_of_ble_eq_true rfl) rfl
  show z_K X F 2 1 6 G (z_xi M) b 0 0 0 [(0, .ref o), (1, .int p0)] [] M (F_Sys_rides o p0 M)
  unfold F_Sys_rides
  refine zk_iload_n (pc := 0) B dX11_rides_0 1 rfl rfl ?_
  refine zk_if_lt (tgt := 10) (pc := 1) B dX11_rides_1 (by decide) (fun _ => ?_) (fun _ => ?_)
  · refine zk_sub [] rfl ?_
    exact J10
  · refine zk_iload_n (pc := 4) B dX11_rides_4 1 rfl rfl ?_
    refine zk_bipush (v := 6) (pc := 5) B dX11_rides_5 (by decide) ?_
    refine zk_icmp_le (tgt := 21) (pc := 7) B dX11_rides_7 (by decide) (fun _ => ?_) (fun _ => ?_)
    · refine zk_aload_n (pc := 21) B dX11_rides_21 0 rfl rfl ?_
      refine zk_getr (pc := 22) B kx_11 (gSys_s hG) 6 (by decide) kf_11_36 rfl (gSys_f6 hG) dX11_rides_22 ?_
      refine zk_iload_n (pc := 25) B dX11_rides_25 1 rfl rfl ?_
      refine zk_cpi (pc := 26) (k' := 0) (n' := 0) B rfl rfl (Nat.le_of_ble_eq_true rfl) (Nat.le_of_ble_eq_true rfl) (fun b hb => zr_V B hR kV_yX0_countInState km_11_193 kx_0 (gDesk_s (gSys_t6 hG)) [.int p0] rfl rfl (Nat.le_of_ble_eq_true rfl) dX11_rides_26 (m_Desk_countInState hX (gSys_t6 hG) p0 M b hb) ⟨Nat.le_of_ble_eq_true rfl, Nat.le_of_ble_eq_true rfl⟩ ⟨Nat.le_of_ble_eq_true rfl, Nat.le_of_ble_eq_true rfl⟩) (fun x1 _ => ?_)
      exact zk_iret (pc := 29) B dX11_rides_29 rfl rfl (Nat.le_of_ble_eq_true rfl) (Nat.le_of_ble_eq_true rfl) rfl
    · refine zk_sub [] rfl ?_
      exact J10
