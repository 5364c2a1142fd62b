/-! ===== walks of the class (by program) ===== -/
set_option maxHeartbeats 4000000 in
set_option maxRecDepth 100000 in
theorem m_Tokens_nameWords {X : z_X} (hX : z_ok X) {G : z_Gr} {o : Nat} (hG : g_Sys G o) (M : z_Mem) (b : z_Mem) (h : F_Tokens_nameWords o M = some b) : z_Ct X yX8_nameWords cX8_nameWords 2 none ({ frames := 6, cells := 0, slots := 0, locals := 135 } : Room) [.ref (o + 499)] G M (fun o9 G9 M9 => G9 = G ∧ (o9, M9) = z_cvm b) := by
  refine z_enter hX (by decide) (Nat.le_of_ble_eq_true rfl) h (fun F B hR => ?_)
  have L2 : ∀ (nf2 : Nat), ∀ (v1 : Int32) (M : z_Mem), z_K X F 2 0 0 G z_cvm b 0 0 2 [(0, .ref (o + 499)), (1, .int v1)] [] M (F_Tokens_nameWords_L2 o nf2 v1 M) := by
    intro nf2
    induction nf2 with
    | zero => intro v1 M; exact zk_none
    | succ nf2 ih2 =>
      intro v1 M
      show z_K X F 2 0 0 G z_cvm b 0 0 2 [(0, .ref (o + 499)), (1, .int v1)] [] M (F_Tokens_nameWords_B2 o (F_Tokens_nameWords_L2 o nf2) v1 M)
      unfold F_Tokens_nameWords_B2
      refine zk_iload_n (pc := 2) B dX8_nameWords_2 1 rfl rfl ?_
      refine zk_aload_n (pc := 3) B dX8_nameWords_3 0 rfl rfl ?_
      refine zk_geti (pc := 4) B kx_8 (gTokens_s hG) 7 (by decide) kf_8_35 rfl dX8_nameWords_4 ?_
      refine zk_icmp_ge (tgt := 55) (pc := 7) B dX8_nameWords_7 (by decide) (fun _ => ?_) (fun _ => ?_)
      · exact zk_vret (pc := 55) B dX8_nameWords_55 rfl (Nat.le_of_ble_eq_true rfl) (Nat.le_of_ble_eq_true rfl) rfl
      · refine zk_iload_n (pc := 10) B dX8_nameWords_10 1 rfl rfl ?_
        refine zk_sipush (v := 800) (pc := 11) B dX8_nameWords_11 (by decide) ?_
        refine zk_icmp_gt (tgt := 55) (pc := 14) B dX8_nameWords_14 (by decide) (fun _ => ?_) (fun _ => ?_)
        · exact zk_vret (pc := 55) B dX8_nameWords_55 rfl (Nat.le_of_ble_eq_true rfl) (Nat.le_of_ble_eq_true rfl) rfl
        · refine zk_aload_n (pc := 17) B dX8_nameWords_17 0 rfl rfl ?_
          refine zk_getr (pc := 18) B kx_8 (gTokens_s hG) 3 (by decide) kf_8_15 rfl (gTokens_f3 hG) dX8_nameWords_18 ?_
          refine zk_iload_n (pc := 21) B dX8_nameWords_21 1 rfl rfl ?_
          refine zk_iald (pc := 22) B (gTokens_t3 hG) dX8_nameWords_22 ?_
          refine zk_iconst (v := 1) (pc := 23) B dX8_nameWords_23 (by decide) ?_
          refine zk_icmp_ne (tgt := 49) (pc := 24) B dX8_nameWords_24 (by decide) (fun _ => ?_) (fun _ => ?_)
          · refine zk_iinc (y := 1) (lf := fun x1 => [(1, .int x1), (0, .ref (o + 499))]) (pc := 49) B dX8_nameWords_49 1 rfl (by decide) (by decide) (fun _ => rfl) (fun x1 => ?_)
            refine zk_goto (tgt := 2) (pc := 52) B dX8_nameWords_52 (by decide) ?_
            refine zk_sub [1, 0] rfl ?_
            exact ih2 x1 M
          · refine zk_aload_n (pc := 27) B dX8_nameWords_27 0 rfl rfl ?_
            refine zk_getr (pc := 28) B kx_8 (gTokens_s hG) 6 (by decide) kf_8_25 rfl (gTokens_f6 hG) dX8_nameWords_28 ?_
            refine zk_iload_n (pc := 31) B dX8_nameWords_31 1 rfl rfl ?_
            refine zk_aload_n (pc := 32) B dX8_nameWords_32 0 rfl rfl ?_
            refine zk_aload_n (pc := 33) B dX8_nameWords_33 0 rfl rfl ?_
            refine zk_getr (pc := 34) B kx_8 (gTokens_s hG) 4 (by decide) kf_8_19 rfl (gTokens_f4 hG) dX8_nameWords_34 ?_
            refine zk_iload_n (pc := 37) B dX8_nameWords_37 1 rfl rfl ?_
            refine zk_iald (pc := 38) B (gTokens_t4 hG) dX8_nameWords_38 ?_
            refine zk_aload_n (pc := 39) B dX8_nameWords_39 0 rfl rfl ?_
            refine zk_getr (pc := 40) B kx_8 (gTokens_s hG) 5 (by decide) kf_8_22 rfl (gTokens_f5 hG) dX8_nameWords_40 ?_
            refine zk_iload_n (pc := 43) B dX8_nameWords_43 1 rfl rfl ?_
            refine zk_iald (pc := 44) B (gTokens_t5 hG) dX8_nameWords_44 ?_
            refine zk_cpi (pc := 45) (k' := 0) (n' := 0) B rfl rfl (Nat.le_of_ble_eq_true rfl) (Nat.le_of_ble_eq_true rfl) (fun b hb => zr_V B hR kV_yX8_placeOfWord km_8_69 kx_8 (gTokens_s hG) [.int (M.1 (o + 501) v1.toNatClampNeg), .int (M.1 (o + 502) v1.toNatClampNeg)] rfl rfl (Nat.le_of_ble_eq_true rfl) dX8_nameWords_45 (m_Tokens_placeOfWord hX hG (M.1 (o + 501) v1.toNatClampNeg) (M.1 (o + 502) v1.toNatClampNeg) M b hb) ⟨Nat.le_of_ble_eq_true rfl, Nat.le_of_ble_eq_true rfl⟩ ⟨Nat.le_of_ble_eq_true rfl, Nat.le_of_ble_eq_true rfl⟩) (fun x2 _ => ?_)
            refine zk_iast (pc := 48) B (gTokens_t6 hG) dX8_nameWords_48 ?_
            refine zk_lm (fun M3 => ?_)
            refine zk_iinc (y := 1) (lf := fun x4 => [(1, .int x4), (0, .ref (o + 499))]) (pc := 49) B dX8_nameWords_49 1 rfl (by decide) (by decide) (fun _ => rfl) (fun x4 => ?_)
            refine zk_goto (tgt := 2) (pc := 52) B dX8_nameWords_52 (by decide) ?_
            refine zk_sub [1, 0] rfl ?_
            exact ih2 x4 M3
  show z_K X F 2 0 0 G z_cvm b 0 0 0 [(0, .ref (o + 499))] [] M (F_Tokens_nameWords o M)
  unfold F_Tokens_nameWords
  refine zk_iconst (v := 0) (pc := 0) B dX8_nameWords_0 (by decide) ?_
  refine zk_istore_n (loc' := [(1, .int 0), (0, .ref (o + 499))]) (pc := 1) B dX8_nameWords_1 rfl (by decide) rfl ?_
  refine zk_sub [1, 0] rfl ?_
  exact L2 10000 0 M
set_option maxHeartbeats 4000000 in
set_option maxRecDepth 100000 in
theorem m_Tokens_begin {X : z_X} (hX : z_ok X) {G : z_Gr} {o : Nat} (hG : g_Sys G o) (p0 : Int32) (M : z_Mem) (b : z_Mem) (h : F_Tokens_begin o p0 M = some b) : z_Ct X yX8_begin cX8_begin 6 none ({ frames := 7, cells := 0, slots := 0, locals := 156 } : Room) [.ref (o + 499), .int p0] G M (fun o9 G9 M9 => G9 = G ∧ (o9, M9) = z_cvm b) := by
  refine z_enter hX (by decide) (Nat.le_of_ble_eq_true rfl) h (fun F B hR => ?_)
  have L19 : ∀ (nf19 : Nat), ∀ (v1 : Int32) (v2 : Int32) (v3 : Int32) (M : z_Mem), z_K X F 6 0 0 G z_cvm b 0 0 19 [(0, .ref (o + 499)), (1, .int v1), (2, .int v2), (3, .int v3)] [] M (F_Tokens_begin_L19 o nf19 v1 v2 v3 M) := by
    intro nf19
    induction nf19 with
    | zero => intro v1 v2 v3 M; exact zk_none
    | succ nf19 ih19 =>
      have J73 : ∀ (v1 : Int32) (v3 : Int32) (v5 : Int32) (M : z_Mem), z_K X F 6 0 0 G z_cvm b 0 0 73 [(0, .ref (o + 499)), (1, .int v1), (3, .int v3), (5, .int v5)] [] M (F_Tokens_begin_J73 o (F_Tokens_begin_L19 o nf19) v1 v3 v5 M) := by
        intro v1 v3 v5 M
        unfold F_Tokens_begin_J73
        refine zk_iload (pc := 73) B dX8_begin_73 3 rfl ?_
        refine zk_istore_n (loc' := [(2, .int v5), (0, .ref (o + 499)), (1, .int v1), (3, .int v3), (5, .int v5)]) (pc := 75) B dX8_begin_75 rfl (by decide) rfl ?_
        refine zk_iinc (y := 1) (lf := fun x12 => [(3, .int x12), (2, .int v5), (0, .ref (o + 499)), (1, .int v1), (5, .int v5)]) (pc := 76) B dX8_begin_76 3 rfl (by decide) (by decide) (fun _ => rfl) (fun x12 => ?_)
        refine zk_goto (tgt := 19) (pc := 79) B dX8_begin_79 (by decide) ?_
        refine zk_sub [2, 3, 1, 0] rfl ?_
        exact ih19 v1 v5 x12 M
      have J62 : ∀ (v1 : Int32) (v3 : Int32) (v4 : Int32) (v5 : Int32) (M : z_Mem), z_K X F 6 0 0 G z_cvm b 0 0 62 [(0, .ref (o + 499)), (1, .int v1), (3, .int v3), (4, .int v4), (5, .int v5)] [] M (F_Tokens_begin_J62 o (F_Tokens_begin_L19 o nf19) v1 v3 v4 v5 M) := by
        intro v1 v3 v4 v5 M
        unfold F_Tokens_begin_J62
        refine zk_iload (pc := 62) B dX8_begin_62 4 rfl ?_
        refine zk_if_eq (tgt := 73) (pc := 64) B dX8_begin_64 (by decide) (fun _ => ?_) (fun _ => ?_)
        · refine zk_sub [0, 1, 2, 4] rfl ?_
          exact J73 v1 v3 v5 M
        · refine zk_aload_n (pc := 67) B dX8_begin_67 0 rfl rfl ?_
          refine zk_iload (pc := 68) B dX8_begin_68 3 rfl ?_
          refine zk_cvm (pc := 70) (k' := 0) (n' := 0) B rfl rfl (Nat.le_of_ble_eq_true rfl) (Nat.le_of_ble_eq_true rfl) (fun b hb => zr_V B hR kV_yX8_extendToken km_8_49 kx_8 (gTokens_s hG) [.int v4] rfl rfl (Nat.le_of_ble_eq_true rfl) dX8_begin_70 (m_Tokens_extendToken hX hG v4 M b hb) ⟨Nat.le_of_ble_eq_true rfl, Nat.le_of_ble_eq_true rfl⟩ ⟨Nat.le_of_ble_eq_true rfl, Nat.le_of_ble_eq_true rfl⟩) (fun M11 => ?_)
          refine zk_sub [0, 1, 2, 4] rfl ?_
          exact J73 v1 v3 v5 M11
      have J55 : ∀ (v1 : Int32) (v3 : Int32) (v4 : Int32) (v5 : Int32) (M : z_Mem), z_K X F 6 0 0 G z_cvm b 0 0 55 [(0, .ref (o + 499)), (1, .int v1), (3, .int v3), (4, .int v4), (5, .int v5)] [] M (F_Tokens_begin_J55 o (F_Tokens_begin_L19 o nf19) v1 v3 v4 v5 M) := by
        intro v1 v3 v4 v5 M
        unfold F_Tokens_begin_J55
        refine zk_aload_n (pc := 55) B dX8_begin_55 0 rfl rfl ?_
        refine zk_iload (pc := 56) B dX8_begin_56 4 rfl ?_
        refine zk_iload_n (pc := 58) B dX8_begin_58 2 rfl rfl ?_
        refine zk_cvm (pc := 59) (k' := 0) (n' := 0) B rfl rfl (Nat.le_of_ble_eq_true rfl) (Nat.le_of_ble_eq_true rfl) (fun b hb => zr_V B hR kV_yX8_appendToken km_8_45 kx_8 (gTokens_s hG) [.int v5, .int v3] rfl rfl (Nat.le_of_ble_eq_true rfl) dX8_begin_59 (m_Tokens_appendToken hX hG v5 v3 M b hb) ⟨Nat.le_of_ble_eq_true rfl, Nat.le_of_ble_eq_true rfl⟩ ⟨Nat.le_of_ble_eq_true rfl, Nat.le_of_ble_eq_true rfl⟩) (fun M10 => ?_)
        exact J62 v1 v3 v4 v5 M10
      intro v1 v2 v3 M
      show z_K X F 6 0 0 G z_cvm b 0 0 19 [(0, .ref (o + 499)), (1, .int v1), (2, .int v2), (3, .int v3)] [] M (F_Tokens_begin_B19 o (F_Tokens_begin_L19 o nf19) v1 v2 v3 M)
      unfold F_Tokens_begin_B19
      refine zk_iload_n (pc := 19) B dX8_begin_19 3 rfl rfl ?_
      refine zk_iload_n (pc := 20) B dX8_begin_20 1 rfl rfl ?_
      refine zk_icmp_ge (tgt := 82) (pc := 21) B dX8_begin_21 (by decide) (fun _ => ?_) (fun _ => ?_)
      · refine zk_aload_n (pc := 82) B dX8_begin_82 0 rfl rfl ?_
        refine zk_iconst (v := 4) (pc := 83) B dX8_begin_83 (by decide) ?_
        refine zk_iload_n (pc := 84) B dX8_begin_84 1 rfl rfl ?_
        refine zk_cvm (pc := 85) (k' := 0) (n' := 0) B rfl rfl (Nat.le_of_ble_eq_true rfl) (Nat.le_of_ble_eq_true rfl) (fun b hb => zr_V B hR kV_yX8_appendToken km_8_45 kx_8 (gTokens_s hG) [.int 4, .int v1] rfl rfl (Nat.le_of_ble_eq_true rfl) dX8_begin_85 (m_Tokens_appendToken hX hG 4 v1 M b hb) ⟨Nat.le_of_ble_eq_true rfl, Nat.le_of_ble_eq_true rfl⟩ ⟨Nat.le_of_ble_eq_true rfl, Nat.le_of_ble_eq_true rfl⟩) (fun M4 => ?_)
        refine zk_aload_n (pc := 88) B dX8_begin_88 0 rfl rfl ?_
        refine zk_cvm (pc := 89) (k' := 0) (n' := 0) B rfl rfl (Nat.le_of_ble_eq_true rfl) (Nat.le_of_ble_eq_true rfl) (fun b hb => zr_V B hR kV_yX8_nameWords km_8_53 kx_8 (gTokens_s hG) [] rfl rfl (Nat.le_of_ble_eq_true rfl) dX8_begin_89 (m_Tokens_nameWords hX hG M4 b hb) ⟨Nat.le_of_ble_eq_true rfl, Nat.le_of_ble_eq_true rfl⟩ ⟨Nat.le_of_ble_eq_true rfl, Nat.le_of_ble_eq_true rfl⟩) (fun M5 => ?_)
        refine zk_aload_n (pc := 92) B dX8_begin_92 0 rfl rfl ?_
        refine zk_iconst (v := (-1)) (pc := 93) B dX8_begin_93 (by decide) ?_
        refine zk_puti (pc := 94) B kx_8 (gTokens_s hG) 8 (by decide) kf_8_56 rfl rfl rfl rfl dX8_begin_94 ?_
        refine zk_lm (fun M6 => ?_)
        refine zk_aload_n (pc := 97) B dX8_begin_97 0 rfl rfl ?_
        refine zk_cvm (pc := 98) (k' := 0) (n' := 0) B rfl rfl (Nat.le_of_ble_eq_true rfl) (Nat.le_of_ble_eq_true rfl) (fun b hb => zr_V B hR kV_yX8_next km_8_59 kx_8 (gTokens_s hG) [] rfl rfl (Nat.le_of_ble_eq_true rfl) dX8_begin_98 (m_Tokens_next hX hG M6 b hb) ⟨Nat.le_of_ble_eq_true rfl, Nat.le_of_ble_eq_true rfl⟩ ⟨Nat.le_of_ble_eq_true rfl, Nat.le_of_ble_eq_true rfl⟩) (fun M7 => ?_)
        exact zk_vret (pc := 101) B dX8_begin_101 rfl (Nat.le_of_ble_eq_true rfl) (Nat.le_of_ble_eq_true rfl) rfl
      · refine zk_aload_n (pc := 24) B dX8_begin_24 0 rfl rfl ?_
        refine zk_iload_n (pc := 25) B dX8_begin_25 3 rfl rfl ?_
        refine zk_cpi (pc := 26) (k' := 0) (n' := 0) B rfl rfl (Nat.le_of_ble_eq_true rfl) (Nat.le_of_ble_eq_true rfl) (fun b hb => zr_V B hR kV_yX8_byteAt km_8_38 kx_8 (gTokens_s hG) [.int v3] rfl rfl (Nat.le_of_ble_eq_true rfl) dX8_begin_26 (m_Tokens_byteAt hX hG v3 M b hb) ⟨Nat.le_of_ble_eq_true rfl, Nat.le_of_ble_eq_true rfl⟩ ⟨Nat.le_of_ble_eq_true rfl, Nat.le_of_ble_eq_true rfl⟩) (fun x8 _ => ?_)
        refine zk_istore (loc' := [(4, .int x8), (0, .ref (o + 499)), (1, .int v1), (2, .int v2), (3, .int v3)]) (pc := 29) B dX8_begin_29 (by decide) rfl ?_
        refine zk_iload (pc := 31) B dX8_begin_31 0 rfl ?_
        refine zk_cpi (pc := 33) (k' := 0) (n' := 0) B rfl rfl (Nat.le_of_ble_eq_true rfl) (Nat.le_of_ble_eq_true rfl) (fun b hb => zr_S B hR kS_yX8_kindOf km_8_42 [.int x8] rfl rfl (Nat.le_of_ble_eq_true rfl) dX8_begin_33 (m_Tokens_kindOf hX x8 M b hb) ⟨Nat.le_of_ble_eq_true rfl, Nat.le_of_ble_eq_true rfl⟩ ⟨Nat.le_of_ble_eq_true rfl, Nat.le_of_ble_eq_true rfl⟩) (fun x9 _ => ?_)
        refine zk_istore (loc' := [(5, .int x9), (4, .int x8), (0, .ref (o + 499)), (1, .int v1), (2, .int v2), (3, .int v3)]) (pc := 36) B dX8_begin_36 (by decide) rfl ?_
        refine zk_iload (pc := 38) B dX8_begin_38 0 rfl ?_
        refine zk_iconst (v := 3) (pc := 40) B dX8_begin_40 (by decide) ?_
        refine zk_icmp_eq (tgt := 55) (pc := 41) B dX8_begin_41 (by decide) (fun _ => ?_) (fun _ => ?_)
        · refine zk_sub [2, 3, 5, 1, 0] rfl ?_
          exact J55 v1 v3 x8 x9 M
        · refine zk_iload (pc := 44) B dX8_begin_44 0 rfl ?_
          refine zk_if_eq (tgt := 62) (pc := 46) B dX8_begin_46 (by decide) (fun _ => ?_) (fun _ => ?_)
          · refine zk_sub [2, 3, 5, 1, 0] rfl ?_
            exact J62 v1 v3 x8 x9 M
          · refine zk_iload (pc := 49) B dX8_begin_49 0 rfl ?_
            refine zk_iload_n (pc := 51) B dX8_begin_51 4 rfl rfl ?_
            refine zk_icmp_eq (tgt := 62) (pc := 52) B dX8_begin_52 (by decide) (fun _ => ?_) (fun _ => ?_)
            · refine zk_sub [2, 3, 5, 1, 0] rfl ?_
              exact J62 v1 v3 x8 x9 M
            · refine zk_sub [2, 3, 5, 1, 0] rfl ?_
              exact J55 v1 v3 x8 x9 M
  show z_K X F 6 0 0 G z_cvm b 0 0 0 [(0, .ref (o + 499)), (1, .int p0)] [] M (F_Tokens_begin o p0 M)
  unfold F_Tokens_begin
  refine zk_aload_n (pc := 0) B dX8_begin_0 0 rfl rfl ?_
  refine zk_iconst (v := 0) (pc := 1) B dX8_begin_1 (by decide) ?_
  refine zk_puti (pc := 2) B kx_8 (gTokens_s hG) 0 (by decide) kf_8_32 rfl rfl rfl rfl dX8_begin_2 ?_
  refine zk_lm (fun M1 => ?_)
  refine zk_aload_n (pc := 5) B dX8_begin_5 0 rfl rfl ?_
  refine zk_iconst (v := (-1)) (pc := 6) B dX8_begin_6 (by decide) ?_
  refine zk_puti (pc := 7) B kx_8 (gTokens_s hG) 1 (by decide) kf_8_9 rfl rfl rfl rfl dX8_begin_7 ?_
  refine zk_lm (fun M2 => ?_)
  refine zk_aload_n (pc := 10) B dX8_begin_10 0 rfl rfl ?_
  refine zk_iconst (v := 0) (pc := 11) B dX8_begin_11 (by decide) ?_
  refine zk_puti (pc := 12) B kx_8 (gTokens_s hG) 7 (by decide) kf_8_35 rfl rfl rfl rfl dX8_begin_12 ?_
  refine zk_lm (fun M3 => ?_)
  refine zk_iconst (v := 0) (pc := 15) B dX8_begin_15 (by decide) ?_
  refine zk_istore_n (loc' := [(2, .int 0), (0, .ref (o + 499)), (1, .int p0)]) (pc := 16) B dX8_begin_16 rfl (by decide) rfl ?_
  refine zk_iconst (v := 0) (pc := 17) B dX8_begin_17 (by decide) ?_
  refine zk_istore_n (loc' := [(3, .int 0), (2, .int 0), (0, .ref (o + 499)), (1, .int p0)]) (pc := 18) B dX8_begin_18 rfl (by decide) rfl ?_
  refine zk_sub [2, 3, 1, 0] rfl ?_
  exact L19 10000 p0 0 0 M3
set_option maxHeartbeats 4000000 in
set_option maxRecDepth 100000 in
theorem m_Town_copyFrom {X : z_X} (hX : z_ok X) {G : z_Gr} {a : Nat} (ha : g_Town G a) {r0 : Nat} (hr0 : g_Town G r0) (M : z_Mem) (b : z_Mem) (h : F_Town_copyFrom a r0 M = some b) : z_Ct X yX9_copyFrom cX9_copyFrom 3 none ({ frames := 0, cells := 0, slots := 0, locals := 0 } : Room) [.ref a, .ref r0] G M (fun o9 G9 M9 => G9 = G ∧ (o9, M9) = z_cvm b) := by
  refine z_enter hX (by decide) (Nat.le_of_ble_eq_true rfl) h (fun F B hR => ?_)
  have L18 : ∀ (nf18 : Nat), ∀ (u1 : Nat) (hu1 : g_Town G u1) (v2 : Int32) (M : z_Mem), z_K X F 3 0 0 G z_cvm b 0 0 18 [(0, .ref a), (1, .ref u1), (2, .int v2)] [] M (F_Town_copyFrom_L18 a nf18 u1 v2 M) := by
    intro nf18
    induction nf18 with
    | zero => intro u1 hu1 v2 M; exact zk_none
    | succ nf18 ih18 =>
      intro u1 hu1 v2 M
      show z_K X F 3 0 0 G z_cvm b 0 0 18 [(0, .ref a), (1, .ref u1), (2, .int v2)] [] M (F_Town_copyFrom_B18 a (F_Town_copyFrom_L18 a nf18) u1 v2 M)
      unfold F_Town_copyFrom_B18
      refine zk_iload_n (pc := 18) B dX9_copyFrom_18 2 rfl rfl ?_
      refine zk_aload_n (pc := 19) B dX9_copyFrom_19 0 rfl rfl ?_
      refine zk_getr (pc := 20) B kx_9 (gTown_s ha) 2 (by decide) kf_9_9 rfl (gTown_f2 ha) dX9_copyFrom_20 ?_
      refine zk_alen (v := 64) (pc := 23) B (gTown_t2 ha) (by decide) (by decide) dX9_copyFrom_23 ?_
      refine zk_icmp_ge (tgt := 45) (pc := 24) B dX9_copyFrom_24 (by decide) (fun _ => ?_) (fun _ => ?_)
      · exact zk_vret (pc := 45) B dX9_copyFrom_45 rfl (Nat.le_of_ble_eq_true rfl) (Nat.le_of_ble_eq_true rfl) rfl
      · refine zk_aload_n (pc := 27) B dX9_copyFrom_27 0 rfl rfl ?_
        refine zk_getr (pc := 28) B kx_9 (gTown_s ha) 2 (by decide) kf_9_9 rfl (gTown_f2 ha) dX9_copyFrom_28 ?_
        refine zk_iload_n (pc := 31) B dX9_copyFrom_31 2 rfl rfl ?_
        refine zk_aload_n (pc := 32) B dX9_copyFrom_32 1 rfl rfl ?_
        refine zk_getr (pc := 33) B kx_9 (gTown_s hu1) 2 (by decide) kf_9_9 rfl (gTown_f2 hu1) dX9_copyFrom_33 ?_
        refine zk_iload_n (pc := 36) B dX9_copyFrom_36 2 rfl rfl ?_
        refine zk_iald (pc := 37) B (gTown_t2 hu1) dX9_copyFrom_37 ?_
        refine zk_iast (pc := 38) B (gTown_t2 ha) dX9_copyFrom_38 ?_
        refine zk_lm (fun M3 => ?_)
        refine zk_iinc (y := 1) (lf := fun x4 => [(2, .int x4), (0, .ref a), (1, .ref u1)]) (pc := 39) B dX9_copyFrom_39 2 rfl (by decide) (by decide) (fun _ => rfl) (fun x4 => ?_)
        refine zk_goto (tgt := 18) (pc := 42) B dX9_copyFrom_42 (by decide) ?_
        refine zk_sub [1, 2, 0] rfl ?_
        exact ih18 u1 hu1 x4 M3
  show z_K X F 3 0 0 G z_cvm b 0 0 0 [(0, .ref a), (1, .ref r0)] [] M (F_Town_copyFrom a r0 M)
  unfold F_Town_copyFrom
  refine zk_aload_n (pc := 0) B dX9_copyFrom_0 0 rfl rfl ?_
  refine zk_aload_n (pc := 1) B dX9_copyFrom_1 1 rfl rfl ?_
  refine zk_geti (pc := 2) B kx_9 (gTown_s hr0) 0 (by decide) kf_9_15 rfl dX9_copyFrom_2 ?_
  refine zk_puti (pc := 5) B kx_9 (gTown_s ha) 0 (by decide) kf_9_15 rfl rfl rfl rfl dX9_copyFrom_5 ?_
  refine zk_lm (fun M1 => ?_)
  refine zk_aload_n (pc := 8) B dX9_copyFrom_8 0 rfl rfl ?_
  refine zk_aload_n (pc := 9) B dX9_copyFrom_9 1 rfl rfl ?_
  refine zk_geti (pc := 10) B kx_9 (gTown_s hr0) 1 (by decide) kf_9_19 rfl dX9_copyFrom_10 ?_
  refine zk_puti (pc := 13) B kx_9 (gTown_s ha) 1 (by decide) kf_9_19 rfl rfl rfl rfl dX9_copyFrom_13 ?_
  refine zk_lm (fun M2 => ?_)
  refine zk_iconst (v := 0) (pc := 16) B dX9_copyFrom_16 (by decide) ?_
  refine zk_istore_n (loc' := [(2, .int 0), (0, .ref a), (1, .ref r0)]) (pc := 17) B dX9_copyFrom_17 rfl (by decide) rfl ?_
  refine zk_sub [1, 2, 0] rfl ?_
  exact L18 10000 r0 hr0 0 M2
set_option maxHeartbeats 4000000 in
set_option maxRecDepth 100000 in
theorem m_Traffic_amountOfWay {X : z_X} (hX : z_ok X) {G : z_Gr} {o : Nat} (hG : g_Sys G o) (p0 : Int32) (p1 : Int32) (M : z_Mem) (b : Int32) (h : F_Traffic_amountOfWay o p0 p1 M = some b) : z_Ct X yX10_amountOfWay cX10_amountOfWay 5 (some .int) ({ frames := 1, cells := 0, slots := 0, locals := 32 } : Room) [.ref (o + 495), .int p0, .int p1] G M (fun o9 G9 M9 => G9 = G ∧ (o9, M9) = (z_ci M) b) := by
  refine z_enter hX (by decide) (Nat.le_of_ble_eq_true rfl) h (fun F B hR => ?_)
  have J43 : ∀ (v3 : Int32) (s0 : Int32), z_K X F 5 0 0 G (z_ci M) b 0 0 43 [(3, .int v3)] [.int s0] M (F_Traffic_amountOfWay_J43 o v3 s0 M) := by
    intro v3 s0
    unfold F_Traffic_amountOfWay_J43
    refine zk_istore (loc' := [(4, .int s0), (3, .int v3)]) (pc := 43) B dX10_amountOfWay_43 (by decide) rfl ?_
    refine zk_iload_n (pc := 45) B dX10_amountOfWay_45 1 rfl rfl ?_
    refine zk_iload_n (pc := 46) B dX10_amountOfWay_46 1 rfl rfl ?_
    refine zk_iload (pc := 47) B dX10_amountOfWay_47 0 rfl ?_
    refine zk_imul (pc := 49) B dX10_amountOfWay_49 ?_
    refine zk_bipush (v := 100) (pc := 50) B dX10_amountOfWay_50 (by decide) ?_
    refine zk_idiv (pc := 52) B dX10_amountOfWay_52 (by decide) ?_
    refine zk_isub (pc := 53) B dX10_amountOfWay_53 ?_
    exact zk_iret (pc := 54) B dX10_amountOfWay_54 rfl rfl (Nat.le_of_ble_eq_true rfl) (Nat.le_of_ble_eq_true rfl) rfl
  show z_K X F 5 0 0 G (z_ci M) b 0 0 0 [(0, .ref (o + 495)), (1, .int p0), (2, .int p1)] [] M (F_Traffic_amountOfWay o p0 p1 M)
  unfold F_Traffic_amountOfWay
  refine zk_iload_n (pc := 0) B dX10_amountOfWay_0 2 rfl rfl ?_
  refine zk_iconst (v := 1) (pc := 1) B dX10_amountOfWay_1 (by decide) ?_
  refine zk_icmp_ge (tgt := 7) (pc := 2) B dX10_amountOfWay_2 (by decide) (fun _ => ?_) (fun _ => ?_)
  · refine zk_iload_n (pc := 7) B dX10_amountOfWay_7 1 rfl rfl ?_
    refine zk_aload_n (pc := 8) B dX10_amountOfWay_8 0 rfl rfl ?_
    refine zk_getr (pc := 9) B kx_10 (gTraffic_s hG) 1 (by decide) kf_10_22 rfl (gTraffic_f1 hG) dX10_amountOfWay_9 ?_
    refine zk_geti (pc := 12) B kx_0 (gDesk_s (gTraffic_t1 hG)) 2 (by decide) kf_10_195 rfl dX10_amountOfWay_12 ?_
    refine zk_imul (pc := 15) B dX10_amountOfWay_15 ?_
    refine zk_li (fun x1 => ?_)
    refine zk_istore_n (loc' := [(3, .int x1), (0, .ref (o + 495)), (1, .int p0), (2, .int p1)]) (pc := 16) B dX10_amountOfWay_16 rfl (by decide) rfl ?_
    refine zk_iload_n (pc := 17) B dX10_amountOfWay_17 3 rfl rfl ?_
    refine zk_iconst (v := 1) (pc := 18) B dX10_amountOfWay_18 (by decide) ?_
    refine zk_icmp_ne (tgt := 26) (pc := 19) B dX10_amountOfWay_19 (by decide) (fun _ => ?_) (fun _ => ?_)
    · refine zk_aload_n (pc := 26) B dX10_amountOfWay_26 1 rfl rfl ?_
      refine zk_getr (pc := 27) B kx_10 (gTraffic_s hG) 1 (by decide) kf_10_22 rfl (gTraffic_f1 hG) dX10_amountOfWay_27 ?_
      refine zk_bipush (v := 7) (pc := 30) B dX10_amountOfWay_30 (by decide) ?_
      refine zk_iload_n (pc := 32) B dX10_amountOfWay_32 3 rfl rfl ?_
      refine zk_iconst (v := 4) (pc := 33) B dX10_amountOfWay_33 (by decide) ?_
      refine zk_min (pc := 34) B hR km_10_198 kst_min ki_Math kco_min (Nat.le_of_ble_eq_true rfl) (Nat.le_of_ble_eq_true rfl) (Nat.le_of_ble_eq_true rfl) (Nat.le_of_ble_eq_true rfl) dX10_amountOfWay_34 ?_
      refine zk_li (fun x2 => ?_)
      refine zk_iadd (pc := 37) B dX10_amountOfWay_37 ?_
      refine zk_iconst (v := 2) (pc := 38) B dX10_amountOfWay_38 (by decide) ?_
      refine zk_isub (pc := 39) B dX10_amountOfWay_39 ?_
      refine zk_cpi (pc := 40) (k' := 0) (n' := 0) B rfl rfl (Nat.le_of_ble_eq_true rfl) (Nat.le_of_ble_eq_true rfl) (fun b hb => zr_V B hR kV_yX0_ruleValue km_10_167 kx_0 (gDesk_s (gTraffic_t1 hG)) [.int ((7 + x2) - 2)] rfl rfl (Nat.le_of_ble_eq_true rfl) dX10_amountOfWay_40 (m_Desk_ruleValue hX (gTraffic_t1 hG) ((7 + x2) - 2) M b hb) ⟨Nat.le_of_ble_eq_true rfl, Nat.le_of_ble_eq_true rfl⟩ ⟨Nat.le_of_ble_eq_true rfl, Nat.le_of_ble_eq_true rfl⟩) (fun x3 _ => ?_)
      refine zk_sub [0] rfl ?_
      exact J43 x1 x3
    · refine zk_iconst (v := 0) (pc := 22) B dX10_amountOfWay_22 (by decide) ?_
      refine zk_goto (tgt := 43) (pc := 23) B dX10_amountOfWay_23 (by decide) ?_
      refine zk_sub [0] rfl ?_
      exact J43 x1 0
  · refine zk_iconst (v := 0) (pc := 5) B dX10_amountOfWay_5 (by decide) ?_
    exact zk_iret (pc := 6) B dX10_amountOfWay_6 rfl rfl (Nat.le_of_ble_eq_true rfl) (Nat.le_of_ble_eq_true rfl) rfl
set_option maxHeartbeats 4000000 in
set_option maxRecDepth 100000 in
theorem m_Traffic_shareOf {X : z_X} (hX : z_ok X) {G : z_Gr} (p0 : Int32) (p1 : Int32) (p2 : Int32) (M : z_Mem) (b : Int32) (h : F_Traffic_shareOf p0 p1 p2 M = some b) : z_Ct X yX10_shareOf cX10_shareOf 3 (some .int) ({ frames := 0, cells := 0, slots := 0, locals := 0 } : Room) [.int p0, .int p1, .int p2] G M (fun o9 G9 M9 => G9 = G ∧ (o9, M9) = (z_ci M) b) := by
  refine z_enter hX (by decide) (Nat.le_of_ble_eq_true rfl) h (fun F B hR => ?_)
  have J22 : ∀ (s0 : Int32) (s1 : Int32), z_K X F 3 0 0 G (z_ci M) b 0 0 22 [] [.int s0, .int s1] M (F_Traffic_shareOf_J22 s0 s1 M) := by
    intro s0 s1
    unfold F_Traffic_shareOf_J22
    refine zk_iadd (pc := 22) B dX10_shareOf_22 ?_
    exact zk_iret (pc := 23) B dX10_shareOf_23 rfl rfl (Nat.le_of_ble_eq_true rfl) (Nat.le_of_ble_eq_true rfl) rfl
  show z_K X F 3 0 0 G (z_ci M) b 0 0 0 [(0, .int p0), (1, .int p1), (2, .int p2)] [] M (F_Traffic_shareOf p0 p1 p2 M)
  unfold F_Traffic_shareOf
  refine zk_iload_n (pc := 0) B dX10_shareOf_0 1 rfl rfl ?_
  refine zk_iconst (v := 1) (pc := 1) B dX10_shareOf_1 (by decide) ?_
  refine zk_icmp_ge (tgt := 7) (pc := 2) B dX10_shareOf_2 (by decide) (fun _ => ?_) (fun _ => ?_)
  · refine zk_iload_n (pc := 7) B dX10_shareOf_7 0 rfl rfl ?_
    refine zk_iload_n (pc := 8) B dX10_shareOf_8 1 rfl rfl ?_
    refine zk_chk (fun h2 => zk_idiv (pc := 9) B dX10_shareOf_9 h2 ?_)
    refine zk_iload_n (pc := 10) B dX10_shareOf_10 2 rfl rfl ?_
    refine zk_iload_n (pc := 11) B dX10_shareOf_11 0 rfl rfl ?_
    refine zk_iload_n (pc := 12) B dX10_shareOf_12 1 rfl rfl ?_
    refine zk_chk (fun h1 => zk_irem (pc := 13) B dX10_shareOf_13 h1 ?_)
    refine zk_icmp_ge (tgt := 21) (pc := 14) B dX10_shareOf_14 (by decide) (fun _ => ?_) (fun _ => ?_)
    · refine zk_iconst (v := 0) (pc := 21) B dX10_shareOf_21 (by decide) ?_
      refine zk_sub [] rfl ?_
      exact J22 0 (p0 / p1)
    · refine zk_iconst (v := 1) (pc := 17) B dX10_shareOf_17 (by decide) ?_
      refine zk_goto (tgt := 22) (pc := 18) B dX10_shareOf_18 (by decide) ?_
      refine zk_sub [] rfl ?_
      exact J22 1 (p0 / p1)
  · refine zk_iconst (v := 0) (pc := 5) B dX10_shareOf_5 (by decide) ?_
    exact zk_iret (pc := 6) B dX10_shareOf_6 rfl rfl (Nat.le_of_ble_eq_true rfl) (Nat.le_of_ble_eq_true rfl) rfl
set_option maxHeartbeats 4000000 in
set_option maxRecDepth 100000 in
theorem m_Traffic_pay {X : z_X} (hX : z_ok X) {G : z_Gr} {r0 : Nat} (hr0 : g_Taxi G r0) {r1 : Nat} (hr1 : g_Ride G r1) (p2 : Int32) (M : z_Mem) (b : z_Mem) (h : F_Traffic_pay r0 r1 p2 M = some b) : z_Ct X yX10_pay cX10_pay 3 none ({ frames := 0, cells := 0, slots := 0, locals := 0 } : Room) [.ref r0, .ref r1, .int p2] G M (fun o9 G9 M9 => G9 = G ∧ (o9, M9) = z_cvm b) := by
  refine z_enter hX (by decide) (Nat.le_of_ble_eq_true rfl) h (fun F B hR => ?_)
  show z_K X F 3 0 0 G z_cvm b 0 0 0 [(0, .ref r0), (1, .ref r1), (2, .int p2)] [] M (F_Traffic_pay r0 r1 p2 M)
  unfold F_Traffic_pay
  refine zk_aload_n (pc := 0) B dX10_pay_0 1 rfl rfl ?_
  refine zk_dup (pc := 1) B dX10_pay_1 rfl ?_
  refine zk_geti (pc := 2) B kx_5 (gRide_s hr1) 12 (by decide) kf_10_149 rfl dX10_pay_2 ?_
  refine zk_iload_n (pc := 5) B dX10_pay_5 2 rfl rfl ?_
  refine zk_iadd (pc := 6) B dX10_pay_6 ?_
  refine zk_puti (pc := 7) B kx_5 (gRide_s hr1) 12 (by decide) kf_10_149 rfl rfl rfl rfl dX10_pay_7 ?_
  refine zk_lm (fun M1 => ?_)
  refine zk_aload_n (pc := 10) B dX10_pay_10 0 rfl rfl ?_
  refine zk_dup (pc := 11) B dX10_pay_11 rfl ?_
  refine zk_geti (pc := 12) B kx_6 (gTaxi_s hr0) 11 (by decide) kf_10_154 rfl dX10_pay_12 ?_
  refine zk_iload_n (pc := 15) B dX10_pay_15 2 rfl rfl ?_
  refine zk_iadd (pc := 16) B dX10_pay_16 ?_
  refine zk_puti (pc := 17) B kx_6 (gTaxi_s hr0) 11 (by decide) kf_10_154 rfl rfl rfl rfl dX10_pay_17 ?_
  refine zk_lm (fun M2 => ?_)
  exact zk_vret (pc := 20) B dX10_pay_20 rfl (Nat.le_of_ble_eq_true rfl) (Nat.le_of_ble_eq_true rfl) rfl
set_option maxHeartbeats 4000000 in
set_option maxRecDepth 100000 in
theorem m_Traffic_payWay {X : z_X} (hX : z_ok X) {G : z_Gr} {o : Nat} (hG : g_Sys G o) {r0 : Nat} (hr0 : g_Taxi G r0) (p1 : Int32) (M : z_Mem) (b : z_Mem) (h : F_Traffic_payWay o r0 p1 M = some b) : z_Ct X yX10_payWay cX10_payWay 5 none ({ frames := 2, cells := 0, slots := 0, locals := 56 } : Room) [.ref (o + 495), .ref r0, .int p1] G M (fun o9 G9 M9 => G9 = G ∧ (o9, M9) = z_cvm b) := by
  refine z_enter hX (by decide) (Nat.le_of_ble_eq_true rfl) h (fun F B hR => ?_)
  have J114 : ∀ (s0 : Int32) (s1 : Int32) (s2 : Nat) (hs2 : g_Taxi G s2) (M : z_Mem), z_K X F 5 0 0 G z_cvm b 0 0 114 [] [.int s0, .int s1, .ref s2] M (F_Traffic_payWay_J114 o s0 s1 s2 M) := by
    intro s0 s1 s2 hs2 M
    unfold F_Traffic_payWay_J114
    refine zk_iadd (pc := 114) B dX10_payWay_114 ?_
    refine zk_puti (pc := 115) B kx_6 (gTaxi_s hs2) 15 (by decide) kf_10_146 rfl rfl rfl rfl dX10_payWay_115 ?_
    refine zk_lm (fun M11 => ?_)
    exact zk_vret (pc := 118) B dX10_payWay_118 rfl (Nat.le_of_ble_eq_true rfl) (Nat.le_of_ble_eq_true rfl) rfl
  have J92 : ∀ (u1 : Nat) (hu1 : g_Taxi G u1) (v2 : Int32) (s0 : Int32) (s1 : Int32) (s2 : Nat) (hs2 : g_Taxi G s2) (M : z_Mem), z_K X F 5 0 0 G z_cvm b 0 0 92 [(1, .ref u1), (2, .int v2)] [.int s0, .int s1, .ref s2] M (F_Traffic_payWay_J92 o u1 v2 s0 s1 s2 M) := by
    intro u1 hu1 v2 s0 s1 s2 hs2 M
    unfold F_Traffic_payWay_J92
    refine zk_iadd (pc := 92) B dX10_payWay_92 ?_
    refine zk_puti (pc := 93) B kx_6 (gTaxi_s hs2) 14 (by decide) kf_10_143 rfl rfl rfl rfl dX10_payWay_93 ?_
    refine zk_lm (fun M10 => ?_)
    refine zk_aload_n (pc := 96) B dX10_payWay_96 0 rfl rfl ?_
    refine zk_dup (pc := 97) B dX10_payWay_97 rfl ?_
    refine zk_geti (pc := 98) B kx_6 (gTaxi_s hu1) 15 (by decide) kf_10_146 rfl dX10_payWay_98 ?_
    refine zk_aload_n (pc := 101) B dX10_payWay_101 0 rfl rfl ?_
    refine zk_geti (pc := 102) B kx_6 (gTaxi_s hu1) 8 (by decide) kf_10_115 rfl dX10_payWay_102 ?_
    refine zk_iconst (v := 1) (pc := 105) B dX10_payWay_105 (by decide) ?_
    refine zk_icmp_le (tgt := 113) (pc := 106) B dX10_payWay_106 (by decide) (fun _ => ?_) (fun _ => ?_)
    · refine zk_iconst (v := 0) (pc := 113) B dX10_payWay_113 (by decide) ?_
      refine zk_sub [] rfl ?_
      exact J114 0 (M10.1 u1 15) u1 hu1 M10
    · refine zk_iload_n (pc := 109) B dX10_payWay_109 1 rfl rfl ?_
      refine zk_goto (tgt := 114) (pc := 110) B dX10_payWay_110 (by decide) ?_
      refine zk_sub [] rfl ?_
      exact J114 v2 (M10.1 u1 15) u1 hu1 M10
  have L13 : ∀ (nf13 : Nat), ∀ (u1 : Nat) (hu1 : g_Taxi G u1) (v2 : Int32) (v3 : Int32) (v4 : Int32) (M : z_Mem), z_K X F 5 0 0 G z_cvm b 0 0 13 [(0, .ref (o + 495)), (1, .ref u1), (2, .int v2), (3, .int v3), (4, .int v4)] [] M (F_Traffic_payWay_L13 o nf13 u1 v2 v3 v4 M) := by
    intro nf13
    induction nf13 with
    | zero => intro u1 hu1 v2 v3 v4 M; exact zk_none
    | succ nf13 ih13 =>
      intro u1 hu1 v2 v3 v4 M
      show z_K X F 5 0 0 G z_cvm b 0 0 13 [(0, .ref (o + 495)), (1, .ref u1), (2, .int v2), (3, .int v3), (4, .int v4)] [] M (F_Traffic_payWay_B13 o (F_Traffic_payWay_L13 o nf13) u1 v2 v3 v4 M)
      unfold F_Traffic_payWay_B13
      refine zk_iload (pc := 13) B dX10_payWay_13 4 rfl ?_
      refine zk_aload_n (pc := 15) B dX10_payWay_15 1 rfl rfl ?_
      refine zk_geti (pc := 16) B kx_6 (gTaxi_s hu1) 8 (by decide) kf_10_115 rfl dX10_payWay_16 ?_
      refine zk_icmp_ge (tgt := 55) (pc := 19) B dX10_payWay_19 (by decide) (fun _ => ?_) (fun _ => ?_)
      · refine zk_aload_n (pc := 55) B dX10_payWay_55 1 rfl rfl ?_
        refine zk_dup (pc := 56) B dX10_payWay_56 rfl ?_
        refine zk_geti (pc := 57) B kx_6 (gTaxi_s hu1) 16 (by decide) kf_10_137 rfl dX10_payWay_57 ?_
        refine zk_iload_n (pc := 60) B dX10_payWay_60 3 rfl rfl ?_
        refine zk_iadd (pc := 61) B dX10_payWay_61 ?_
        refine zk_puti (pc := 62) B kx_6 (gTaxi_s hu1) 16 (by decide) kf_10_137 rfl rfl rfl rfl dX10_payWay_62 ?_
        refine zk_lm (fun M2 => ?_)
        refine zk_aload_n (pc := 65) B dX10_payWay_65 1 rfl rfl ?_
        refine zk_dup (pc := 66) B dX10_payWay_66 rfl ?_
        refine zk_geti (pc := 67) B kx_6 (gTaxi_s hu1) 13 (by decide) kf_10_140 rfl dX10_payWay_67 ?_
        refine zk_iload_n (pc := 70) B dX10_payWay_70 2 rfl rfl ?_
        refine zk_iadd (pc := 71) B dX10_payWay_71 ?_
        refine zk_puti (pc := 72) B kx_6 (gTaxi_s hu1) 13 (by decide) kf_10_140 rfl rfl rfl rfl dX10_payWay_72 ?_
        refine zk_lm (fun M3 => ?_)
        refine zk_aload_n (pc := 75) B dX10_payWay_75 1 rfl rfl ?_
        refine zk_dup (pc := 76) B dX10_payWay_76 rfl ?_
        refine zk_geti (pc := 77) B kx_6 (gTaxi_s hu1) 14 (by decide) kf_10_143 rfl dX10_payWay_77 ?_
        refine zk_aload_n (pc := 80) B dX10_payWay_80 1 rfl rfl ?_
        refine zk_geti (pc := 81) B kx_6 (gTaxi_s hu1) 8 (by decide) kf_10_115 rfl dX10_payWay_81 ?_
        refine zk_if_le (tgt := 91) (pc := 84) B dX10_payWay_84 (by decide) (fun _ => ?_) (fun _ => ?_)
        · refine zk_iconst (v := 0) (pc := 91) B dX10_payWay_91 (by decide) ?_
          refine zk_sub [1, 2] rfl ?_
          exact J92 u1 hu1 v2 0 (M3.1 u1 14) u1 hu1 M3
        · refine zk_iload_n (pc := 87) B dX10_payWay_87 2 rfl rfl ?_
          refine zk_goto (tgt := 92) (pc := 88) B dX10_payWay_88 (by decide) ?_
          refine zk_sub [1, 2] rfl ?_
          exact J92 u1 hu1 v2 v2 (M3.1 u1 14) u1 hu1 M3
      · refine zk_aload_n (pc := 22) B dX10_payWay_22 1 rfl rfl ?_
        refine zk_aload_n (pc := 23) B dX10_payWay_23 0 rfl rfl ?_
        refine zk_getr (pc := 24) B kx_10 (gTraffic_s hG) 1 (by decide) kf_10_22 rfl (gTraffic_f1 hG) dX10_payWay_24 ?_
        refine zk_aload_n (pc := 27) B dX10_payWay_27 1 rfl rfl ?_
        refine zk_iload (pc := 28) B dX10_payWay_28 4 rfl ?_
        refine zk_cpi (pc := 30) (k' := 0) (n' := 0) B rfl rfl (Nat.le_of_ble_eq_true rfl) (Nat.le_of_ble_eq_true rfl) (fun b hb => zr_V B hR kV_yX6_partyAt km_10_122 kx_6 (gTaxi_s hu1) [.int v4] rfl rfl (Nat.le_of_ble_eq_true rfl) dX10_payWay_30 (m_Taxi_partyAt hX hu1 v4 M b hb) ⟨Nat.le_of_ble_eq_true rfl, Nat.le_of_ble_eq_true rfl⟩ ⟨Nat.le_of_ble_eq_true rfl, Nat.le_of_ble_eq_true rfl⟩) (fun x4 _ => ?_)
        refine zk_cpr (pc := 33) (k' := 0) (n' := 0) B rfl rfl (Nat.le_of_ble_eq_true rfl) (Nat.le_of_ble_eq_true rfl) (fun b hb => zr_V B hR kV_yX0_rideAt km_10_125 kx_0 (gDesk_s (gTraffic_t1 hG)) [.int x4] rfl rfl (Nat.le_of_ble_eq_true rfl) dX10_payWay_33 (m_Desk_rideAt hX (gTraffic_t1 hG) x4 M b hb) ⟨Nat.le_of_ble_eq_true rfl, Nat.le_of_ble_eq_true rfl⟩ ⟨Nat.le_of_ble_eq_true rfl, Nat.le_of_ble_eq_true rfl⟩) (fun t5 h6 => ?_)
        have ht5 : g_Ride G t5 := fr_Desk_rideAt (gTraffic_t1 hG) h6
        refine zk_iload_n (pc := 36) B dX10_payWay_36 3 rfl rfl ?_
        refine zk_aload_n (pc := 37) B dX10_payWay_37 1 rfl rfl ?_
        refine zk_geti (pc := 38) B kx_6 (gTaxi_s hu1) 8 (by decide) kf_10_115 rfl dX10_payWay_38 ?_
        refine zk_iload (pc := 41) B dX10_payWay_41 4 rfl ?_
        refine zk_cpi (pc := 43) (k' := 0) (n' := 0) B rfl rfl (Nat.le_of_ble_eq_true rfl) (Nat.le_of_ble_eq_true rfl) (fun b hb => zr_S B hR kS_yX10_shareOf km_10_129 [.int v3, .int (M.1 u1 8), .int v4] rfl rfl (Nat.le_of_ble_eq_true rfl) dX10_payWay_43 (m_Traffic_shareOf hX v3 (M.1 u1 8) v4 M b hb) ⟨Nat.le_of_ble_eq_true rfl, Nat.le_of_ble_eq_true rfl⟩ ⟨Nat.le_of_ble_eq_true rfl, Nat.le_of_ble_eq_true rfl⟩) (fun x7 _ => ?_)
        refine zk_cvm (pc := 46) (k' := 0) (n' := 0) B rfl rfl (Nat.le_of_ble_eq_true rfl) (Nat.le_of_ble_eq_true rfl) (fun b hb => zr_S B hR kS_yX10_pay km_10_133 [.ref u1, .ref t5, .int x7] rfl rfl (Nat.le_of_ble_eq_true rfl) dX10_payWay_46 (m_Traffic_pay hX hu1 ht5 x7 M b hb) ⟨Nat.le_of_ble_eq_true rfl, Nat.le_of_ble_eq_true rfl⟩ ⟨Nat.le_of_ble_eq_true rfl, Nat.le_of_ble_eq_true rfl⟩) (fun M8 => ?_)
        refine zk_iinc (y := 1) (lf := fun x9 => [(4, .int x9), (0, .ref (o + 495)), (1, .ref u1), (2, .int v2), (3, .int v3)]) (pc := 49) B dX10_payWay_49 4 rfl (by decide) (by decide) (fun _ => rfl) (fun x9 => ?_)
        refine zk_goto (tgt := 13) (pc := 52) B dX10_payWay_52 (by decide) ?_
        refine zk_sub [1, 2, 3, 4, 0] rfl ?_
        exact ih13 u1 hu1 v2 v3 x9 M8
  show z_K X F 5 0 0 G z_cvm b 0 0 0 [(0, .ref (o + 495)), (1, .ref r0), (2, .int p1)] [] M (F_Traffic_payWay o r0 p1 M)
  unfold F_Traffic_payWay
  refine zk_aload_n (pc := 0) B dX10_payWay_0 0 rfl rfl ?_
  refine zk_iload_n (pc := 1) B dX10_payWay_1 2 rfl rfl ?_
  refine zk_aload_n (pc := 2) B dX10_payWay_2 1 rfl rfl ?_
  refine zk_geti (pc := 3) B kx_6 (gTaxi_s hr0) 8 (by decide) kf_10_115 rfl dX10_payWay_3 ?_
  refine zk_cpi (pc := 6) (k' := 0) (n' := 0) B rfl rfl (Nat.le_of_ble_eq_true rfl) (Nat.le_of_ble_eq_true rfl) (fun b hb => zr_V B hR kV_yX10_amountOfWay km_10_118 kx_10 (gTraffic_s hG) [.int p1, .int (M.1 r0 8)] rfl rfl (Nat.le_of_ble_eq_true rfl) dX10_payWay_6 (m_Traffic_amountOfWay hX hG p1 (M.1 r0 8) M b hb) ⟨Nat.le_of_ble_eq_true rfl, Nat.le_of_ble_eq_true rfl⟩ ⟨Nat.le_of_ble_eq_true rfl, Nat.le_of_ble_eq_true rfl⟩) (fun x1 _ => ?_)
  refine zk_istore_n (loc' := [(3, .int x1), (0, .ref (o + 495)), (1, .ref r0), (2, .int p1)]) (pc := 9) B dX10_payWay_9 rfl (by decide) rfl ?_
  refine zk_iconst (v := 0) (pc := 10) B dX10_payWay_10 (by decide) ?_
  refine zk_istore (loc' := [(4, .int 0), (3, .int x1), (0, .ref (o + 495)), (1, .ref r0), (2, .int p1)]) (pc := 11) B dX10_payWay_11 (by decide) rfl ?_
  refine zk_sub [2, 3, 4, 1, 0] rfl ?_
  exact L13 10000 r0 hr0 p1 x1 0 M
set_option maxHeartbeats 4000000 in
set_option maxRecDepth 100000 in
theorem m_Traffic_endPickup {X : z_X} (hX : z_ok X) {G : z_Gr} {o : Nat} (hG : g_Sys G o) {r0 : Nat} (hr0 : g_Taxi G r0) (p1 : Int32) (M : z_Mem) (b : z_Mem) (h : F_Traffic_endPickup o r0 p1 M = some b) : z_Ct X yX10_endPickup cX10_endPickup 4 none ({ frames := 2, cells := 0, slots := 0, locals := 42 } : Room) [.ref (o + 495), .ref r0, .int p1] G M (fun o9 G9 M9 => G9 = G ∧ (o9, M9) = z_cvm b) := by
  refine z_enter hX (by decide) (Nat.le_of_ble_eq_true rfl) h (fun F B hR => ?_)
  show z_K X F 4 0 0 G z_cvm b 0 0 0 [(0, .ref (o + 495)), (1, .ref r0), (2, .int p1)] [] M (F_Traffic_endPickup o r0 p1 M)
  unfold F_Traffic_endPickup
  refine zk_aload_n (pc := 0) B dX10_endPickup_0 0 rfl rfl ?_
  refine zk_getr (pc := 1) B kx_10 (gTraffic_s hG) 1 (by decide) kf_10_22 rfl (gTraffic_f1 hG) dX10_endPickup_1 ?_
  refine zk_iload_n (pc := 4) B dX10_endPickup_4 2 rfl rfl ?_
  refine zk_cpr (pc := 5) (k' := 0) (n' := 0) B rfl rfl (Nat.le_of_ble_eq_true rfl) (Nat.le_of_ble_eq_true rfl) (fun b hb => zr_V B hR kV_yX0_rideAt km_10_125 kx_0 (gDesk_s (gTraffic_t1 hG)) [.int p1] rfl rfl (Nat.le_of_ble_eq_true rfl) dX10_endPickup_5 (m_Desk_rideAt hX (gTraffic_t1 hG) p1 M b hb) ⟨Nat.le_of_ble_eq_true rfl, Nat.le_of_ble_eq_true rfl⟩ ⟨Nat.le_of_ble_eq_true rfl, Nat.le_of_ble_eq_true rfl⟩) (fun t1 h2 => ?_)
  have ht1 : g_Ride G t1 := fr_Desk_rideAt (gTraffic_t1 hG) h2
  refine zk_astore_n (loc' := [(3, .ref t1), (0, .ref (o + 495)), (1, .ref r0), (2, .int p1)]) (pc := 8) B dX10_endPickup_8 rfl (by decide) rfl ?_
  refine zk_aload_n (pc := 9) B dX10_endPickup_9 0 rfl rfl ?_
  refine zk_aload_n (pc := 10) B dX10_endPickup_10 1 rfl rfl ?_
  refine zk_getr (pc := 11) B kx_10 (gTraffic_s hG) 2 (by decide) kf_10_26 rfl (gTraffic_f2 hG) dX10_endPickup_11 ?_
  refine zk_iconst (v := 0) (pc := 14) B dX10_endPickup_14 (by decide) ?_
  refine zk_cpi (pc := 15) (k' := 0) (n' := 0) B rfl rfl (Nat.le_of_ble_eq_true rfl) (Nat.le_of_ble_eq_true rfl) (fun b hb => zr_V B hR kV_yX3_doneAt km_10_59 kx_3 (gPlan_s hG) [.int 0] rfl rfl (Nat.le_of_ble_eq_true rfl) dX10_endPickup_15 (m_Plan_doneAt hX hG 0 M b hb) ⟨Nat.le_of_ble_eq_true rfl, Nat.le_of_ble_eq_true rfl⟩ ⟨Nat.le_of_ble_eq_true rfl, Nat.le_of_ble_eq_true rfl⟩) (fun x3 _ => ?_)
  refine zk_puti (pc := 18) B kx_5 (gRide_s ht1) 10 (by decide) kf_10_157 rfl rfl rfl rfl dX10_endPickup_18 ?_
  refine zk_lm (fun M4 => ?_)
  refine zk_aload_n (pc := 21) B dX10_endPickup_21 0 rfl rfl ?_
  refine zk_geti (pc := 22) B kx_5 (gRide_s ht1) 13 (by decide) kf_10_160 rfl dX10_endPickup_22 ?_
  refine zk_if_eq (tgt := 49) (pc := 25) B dX10_endPickup_25 (by decide) (fun _ => ?_) (fun _ => ?_)
  · refine zk_aload_n (pc := 49) B dX10_endPickup_49 0 rfl rfl ?_
    refine zk_iconst (v := 2) (pc := 50) B dX10_endPickup_50 (by decide) ?_
    refine zk_puti (pc := 51) B kx_5 (gRide_s ht1) 0 (by decide) kf_10_164 rfl rfl rfl rfl dX10_endPickup_51 ?_
    refine zk_lm (fun M5 => ?_)
    refine zk_aload_n (pc := 54) B dX10_endPickup_54 2 rfl rfl ?_
    refine zk_aload_n (pc := 55) B dX10_endPickup_55 0 rfl rfl ?_
    refine zk_aload_n (pc := 56) B dX10_endPickup_56 1 rfl rfl ?_
    refine zk_getr (pc := 57) B kx_10 (gTraffic_s hG) 1 (by decide) kf_10_22 rfl (gTraffic_f1 hG) dX10_endPickup_57 ?_
    refine zk_geti (pc := 60) B kx_0 (gDesk_s (gTraffic_t1 hG)) 1 (by decide) kf_10_170 rfl dX10_endPickup_60 ?_
    refine zk_cvm (pc := 63) (k' := 0) (n' := 0) B rfl rfl (Nat.le_of_ble_eq_true rfl) (Nat.le_of_ble_eq_true rfl) (fun b hb => zr_S B hR kS_yX10_pay km_10_133 [.ref r0, .ref t1, .int (M5.1 (o + 5) 1)] rfl rfl (Nat.le_of_ble_eq_true rfl) dX10_endPickup_63 (m_Traffic_pay hX hr0 ht1 (M5.1 (o + 5) 1) M5 b hb) ⟨Nat.le_of_ble_eq_true rfl, Nat.le_of_ble_eq_true rfl⟩ ⟨Nat.le_of_ble_eq_true rfl, Nat.le_of_ble_eq_true rfl⟩) (fun M6 => ?_)
    refine zk_aload_n (pc := 66) B dX10_endPickup_66 2 rfl rfl ?_
    refine zk_iload_n (pc := 67) B dX10_endPickup_67 3 rfl rfl ?_
    refine zk_cvm (pc := 68) (k' := 0) (n' := 0) B rfl rfl (Nat.le_of_ble_eq_true rfl) (Nat.le_of_ble_eq_true rfl) (fun b hb => zr_V B hR kV_yX6_takeAboard km_10_173 kx_6 (gTaxi_s hr0) [.int p1] rfl rfl (Nat.le_of_ble_eq_true rfl) dX10_endPickup_68 (m_Taxi_takeAboard hX hr0 p1 M6 b hb) ⟨Nat.le_of_ble_eq_true rfl, Nat.le_of_ble_eq_true rfl⟩ ⟨Nat.le_of_ble_eq_true rfl, Nat.le_of_ble_eq_true rfl⟩) (fun M7 => ?_)
    exact zk_vret (pc := 71) B dX10_endPickup_71 rfl (Nat.le_of_ble_eq_true rfl) (Nat.le_of_ble_eq_true rfl) rfl
  · refine zk_aload_n (pc := 28) B dX10_endPickup_28 0 rfl rfl ?_
    refine zk_iconst (v := 5) (pc := 29) B dX10_endPickup_29 (by decide) ?_
    refine zk_puti (pc := 30) B kx_5 (gRide_s ht1) 0 (by decide) kf_10_164 rfl rfl rfl rfl dX10_endPickup_30 ?_
    refine zk_lm (fun M8 => ?_)
    refine zk_aload_n (pc := 33) B dX10_endPickup_33 2 rfl rfl ?_
    refine zk_aload_n (pc := 34) B dX10_endPickup_34 0 rfl rfl ?_
    refine zk_aload_n (pc := 35) B dX10_endPickup_35 1 rfl rfl ?_
    refine zk_getr (pc := 36) B kx_10 (gTraffic_s hG) 1 (by decide) kf_10_22 rfl (gTraffic_f1 hG) dX10_endPickup_36 ?_
    refine zk_iconst (v := 4) (pc := 39) B dX10_endPickup_39 (by decide) ?_
    refine zk_cpi (pc := 40) (k' := 0) (n' := 0) B rfl rfl (Nat.le_of_ble_eq_true rfl) (Nat.le_of_ble_eq_true rfl) (fun b hb => zr_V B hR kV_yX0_ruleValue km_10_167 kx_0 (gDesk_s (gTraffic_t1 hG)) [.int 4] rfl rfl (Nat.le_of_ble_eq_true rfl) dX10_endPickup_40 (m_Desk_ruleValue hX (gTraffic_t1 hG) 4 M8 b hb) ⟨Nat.le_of_ble_eq_true rfl, Nat.le_of_ble_eq_true rfl⟩ ⟨Nat.le_of_ble_eq_true rfl, Nat.le_of_ble_eq_true rfl⟩) (fun x9 _ => ?_)
    refine zk_cvm (pc := 43) (k' := 0) (n' := 0) B rfl rfl (Nat.le_of_ble_eq_true rfl) (Nat.le_of_ble_eq_true rfl) (fun b hb => zr_S B hR kS_yX10_pay km_10_133 [.ref r0, .ref t1, .int x9] rfl rfl (Nat.le_of_ble_eq_true rfl) dX10_endPickup_43 (m_Traffic_pay hX hr0 ht1 x9 M8 b hb) ⟨Nat.le_of_ble_eq_true rfl, Nat.le_of_ble_eq_true rfl⟩ ⟨Nat.le_of_ble_eq_true rfl, Nat.le_of_ble_eq_true rfl⟩) (fun M10 => ?_)
    refine zk_goto (tgt := 71) (pc := 46) B dX10_endPickup_46 (by decide) ?_
    exact zk_vret (pc := 71) B dX10_endPickup_71 rfl (Nat.le_of_ble_eq_true rfl) (Nat.le_of_ble_eq_true rfl) rfl
set_option maxHeartbeats 4000000 in
set_option maxRecDepth 100000 in
theorem m_Traffic_endDrop {X : z_X} (hX : z_ok X) {G : z_Gr} {o : Nat} (hG : g_Sys G o) {r0 : Nat} (hr0 : g_Taxi G r0) (p1 : Int32) (M : z_Mem) (b : z_Mem) (h : F_Traffic_endDrop o r0 p1 M = some b) : z_Ct X yX10_endDrop cX10_endDrop 4 none ({ frames := 2, cells := 0, slots := 0, locals := 42 } : Room) [.ref (o + 495), .ref r0, .int p1] G M (fun o9 G9 M9 => G9 = G ∧ (o9, M9) = z_cvm b) := by
  refine z_enter hX (by decide) (Nat.le_of_ble_eq_true rfl) h (fun F B hR => ?_)
  show z_K X F 4 0 0 G z_cvm b 0 0 0 [(0, .ref (o + 495)), (1, .ref r0), (2, .int p1)] [] M (F_Traffic_endDrop o r0 p1 M)
  unfold F_Traffic_endDrop
  refine zk_aload_n (pc := 0) B dX10_endDrop_0 0 rfl rfl ?_
  refine zk_getr (pc := 1) B kx_10 (gTraffic_s hG) 1 (by decide) kf_10_22 rfl (gTraffic_f1 hG) dX10_endDrop_1 ?_
  refine zk_iload_n (pc := 4) B dX10_endDrop_4 2 rfl rfl ?_
  refine zk_cpr (pc := 5) (k' := 0) (n' := 0) B rfl rfl (Nat.le_of_ble_eq_true rfl) (Nat.le_of_ble_eq_true rfl) (fun b hb => zr_V B hR kV_yX0_rideAt km_10_125 kx_0 (gDesk_s (gTraffic_t1 hG)) [.int p1] rfl rfl (Nat.le_of_ble_eq_true rfl) dX10_endDrop_5 (m_Desk_rideAt hX (gTraffic_t1 hG) p1 M b hb) ⟨Nat.le_of_ble_eq_true rfl, Nat.le_of_ble_eq_true rfl⟩ ⟨Nat.le_of_ble_eq_true rfl, Nat.le_of_ble_eq_true rfl⟩) (fun t1 h2 => ?_)
  have ht1 : g_Ride G t1 := fr_Desk_rideAt (gTraffic_t1 hG) h2
  refine zk_astore_n (loc' := [(3, .ref t1), (0, .ref (o + 495)), (1, .ref r0), (2, .int p1)]) (pc := 8) B dX10_endDrop_8 rfl (by decide) rfl ?_
  refine zk_aload_n (pc := 9) B dX10_endDrop_9 0 rfl rfl ?_
  refine zk_iconst (v := 3) (pc := 10) B dX10_endDrop_10 (by decide) ?_
  refine zk_puti (pc := 11) B kx_5 (gRide_s ht1) 0 (by decide) kf_10_164 rfl rfl rfl rfl dX10_endDrop_11 ?_
  refine zk_lm (fun M3 => ?_)
  refine zk_aload_n (pc := 14) B dX10_endDrop_14 0 rfl rfl ?_
  refine zk_aload_n (pc := 15) B dX10_endDrop_15 1 rfl rfl ?_
  refine zk_getr (pc := 16) B kx_10 (gTraffic_s hG) 2 (by decide) kf_10_26 rfl (gTraffic_f2 hG) dX10_endDrop_16 ?_
  refine zk_iconst (v := 0) (pc := 19) B dX10_endDrop_19 (by decide) ?_
  refine zk_cpi (pc := 20) (k' := 0) (n' := 0) B rfl rfl (Nat.le_of_ble_eq_true rfl) (Nat.le_of_ble_eq_true rfl) (fun b hb => zr_V B hR kV_yX3_arrivalAt km_10_176 kx_3 (gPlan_s hG) [.int 0] rfl rfl (Nat.le_of_ble_eq_true rfl) dX10_endDrop_20 (m_Plan_arrivalAt hX hG 0 M3 b hb) ⟨Nat.le_of_ble_eq_true rfl, Nat.le_of_ble_eq_true rfl⟩ ⟨Nat.le_of_ble_eq_true rfl, Nat.le_of_ble_eq_true rfl⟩) (fun x4 _ => ?_)
  refine zk_puti (pc := 23) B kx_5 (gRide_s ht1) 11 (by decide) kf_10_179 rfl rfl rfl rfl dX10_endDrop_23 ?_
  refine zk_lm (fun M5 => ?_)
  refine zk_aload_n (pc := 26) B dX10_endDrop_26 2 rfl rfl ?_
  refine zk_iload_n (pc := 27) B dX10_endDrop_27 3 rfl rfl ?_
  refine zk_cvm (pc := 28) (k' := 0) (n' := 0) B rfl rfl (Nat.le_of_ble_eq_true rfl) (Nat.le_of_ble_eq_true rfl) (fun b hb => zr_V B hR kV_yX6_letOut km_10_182 kx_6 (gTaxi_s hr0) [.int p1] rfl rfl (Nat.le_of_ble_eq_true rfl) dX10_endDrop_28 (m_Taxi_letOut hX hr0 p1 M5 b hb) ⟨Nat.le_of_ble_eq_true rfl, Nat.le_of_ble_eq_true rfl⟩ ⟨Nat.le_of_ble_eq_true rfl, Nat.le_of_ble_eq_true rfl⟩) (fun M6 => ?_)
  exact zk_vret (pc := 31) B dX10_endDrop_31 rfl (Nat.le_of_ble_eq_true rfl) (Nat.le_of_ble_eq_true rfl) rfl
set_option maxHeartbeats 4000000 in
set_option maxRecDepth 100000 in
theorem m_Traffic_doFirstStop {X : z_X} (hX : z_ok X) {G : z_Gr} {o : Nat} (hG : g_Sys G o) {r0 : Nat} (hr0 : g_Taxi G r0) (M : z_Mem) (b : z_Mem) (h : F_Traffic_doFirstStop o r0 M = some b) : z_Ct X yX10_doFirstStop cX10_doFirstStop 4 none ({ frames := 3, cells := 0, slots := 0, locals := 80 } : Room) [.ref (o + 495), .ref r0] G M (fun o9 G9 M9 => G9 = G ∧ (o9, M9) = z_cvm b) := by
  refine z_enter hX (by decide) (Nat.le_of_ble_eq_true rfl) h (fun F B hR => ?_)
  show z_K X F 4 0 0 G z_cvm b 0 0 0 [(0, .ref (o + 495)), (1, .ref r0)] [] M (F_Traffic_doFirstStop o r0 M)
  unfold F_Traffic_doFirstStop
  refine zk_aload_n (pc := 0) B dX10_doFirstStop_0 1 rfl rfl ?_
  refine zk_iconst (v := 0) (pc := 1) B dX10_doFirstStop_1 (by decide) ?_
  refine zk_cpi (pc := 2) (k' := 0) (n' := 0) B rfl rfl (Nat.le_of_ble_eq_true rfl) (Nat.le_of_ble_eq_true rfl) (fun b hb => zr_V B hR kV_yX6_stopAt km_10_72 kx_6 (gTaxi_s hr0) [.int 0] rfl rfl (Nat.le_of_ble_eq_true rfl) dX10_doFirstStop_2 (m_Taxi_stopAt hX hr0 0 M b hb) ⟨Nat.le_of_ble_eq_true rfl, Nat.le_of_ble_eq_true rfl⟩ ⟨Nat.le_of_ble_eq_true rfl, Nat.le_of_ble_eq_true rfl⟩) (fun x1 _ => ?_)
  refine zk_istore_n (loc' := [(2, .int x1), (0, .ref (o + 495)), (1, .ref r0)]) (pc := 5) B dX10_doFirstStop_5 rfl (by decide) rfl ?_
  refine zk_iload_n (pc := 6) B dX10_doFirstStop_6 0 rfl rfl ?_
  refine zk_cpi (pc := 7) (k' := 0) (n' := 0) B rfl rfl (Nat.le_of_ble_eq_true rfl) (Nat.le_of_ble_eq_true rfl) (fun b hb => zr_S B hR kS_yX0_rideNumber km_10_75 [.int x1] rfl rfl (Nat.le_of_ble_eq_true rfl) dX10_doFirstStop_7 (m_Desk_rideNumber hX x1 M b hb) ⟨Nat.le_of_ble_eq_true rfl, Nat.le_of_ble_eq_true rfl⟩ ⟨Nat.le_of_ble_eq_true rfl, Nat.le_of_ble_eq_true rfl⟩) (fun x2 _ => ?_)
  refine zk_istore_n (loc' := [(3, .int x2), (2, .int x1), (0, .ref (o + 495)), (1, .ref r0)]) (pc := 10) B dX10_doFirstStop_10 rfl (by decide) rfl ?_
  refine zk_aload_n (pc := 11) B dX10_doFirstStop_11 2 rfl rfl ?_
  refine zk_aload_n (pc := 12) B dX10_doFirstStop_12 3 rfl rfl ?_
  refine zk_aload_n (pc := 13) B dX10_doFirstStop_13 2 rfl rfl ?_
  refine zk_getr (pc := 14) B kx_10 (gTraffic_s hG) 2 (by decide) kf_10_26 rfl (gTraffic_f2 hG) dX10_doFirstStop_14 ?_
  refine zk_iconst (v := 0) (pc := 17) B dX10_doFirstStop_17 (by decide) ?_
  refine zk_cpi (pc := 18) (k' := 0) (n' := 0) B rfl rfl (Nat.le_of_ble_eq_true rfl) (Nat.le_of_ble_eq_true rfl) (fun b hb => zr_V B hR kV_yX3_wayTo km_10_78 kx_3 (gPlan_s hG) [.int 0] rfl rfl (Nat.le_of_ble_eq_true rfl) dX10_doFirstStop_18 (m_Plan_wayTo hX hG 0 M b hb) ⟨Nat.le_of_ble_eq_true rfl, Nat.le_of_ble_eq_true rfl⟩ ⟨Nat.le_of_ble_eq_true rfl, Nat.le_of_ble_eq_true rfl⟩) (fun x3 _ => ?_)
  refine zk_cvm (pc := 21) (k' := 0) (n' := 0) B rfl rfl (Nat.le_of_ble_eq_true rfl) (Nat.le_of_ble_eq_true rfl) (fun b hb => zr_V B hR kV_yX10_payWay km_10_81 kx_10 (gTraffic_s hG) [.ref r0, .int x3] rfl rfl (Nat.le_of_ble_eq_true rfl) dX10_doFirstStop_21 (m_Traffic_payWay hX hG hr0 x3 M b hb) ⟨Nat.le_of_ble_eq_true rfl, Nat.le_of_ble_eq_true rfl⟩ ⟨Nat.le_of_ble_eq_true rfl, Nat.le_of_ble_eq_true rfl⟩) (fun M4 => ?_)
  refine zk_aload_n (pc := 24) B dX10_doFirstStop_24 3 rfl rfl ?_
  refine zk_aload_n (pc := 25) B dX10_doFirstStop_25 2 rfl rfl ?_
  refine zk_getr (pc := 26) B kx_10 (gTraffic_s hG) 2 (by decide) kf_10_26 rfl (gTraffic_f2 hG) dX10_doFirstStop_26 ?_
  refine zk_aload_n (pc := 29) B dX10_doFirstStop_29 3 rfl rfl ?_
  refine zk_geti (pc := 30) B kx_6 (gTaxi_s hr0) 5 (by decide) kf_10_85 rfl dX10_doFirstStop_30 ?_
  refine zk_aload_n (pc := 33) B dX10_doFirstStop_33 3 rfl rfl ?_
  refine zk_geti (pc := 34) B kx_6 (gTaxi_s hr0) 2 (by decide) kf_10_88 rfl dX10_doFirstStop_34 ?_
  refine zk_aload_n (pc := 37) B dX10_doFirstStop_37 2 rfl rfl ?_
  refine zk_getr (pc := 38) B kx_10 (gTraffic_s hG) 2 (by decide) kf_10_26 rfl (gTraffic_f2 hG) dX10_doFirstStop_38 ?_
  refine zk_iconst (v := 0) (pc := 41) B dX10_doFirstStop_41 (by decide) ?_
  refine zk_cpi (pc := 42) (k' := 0) (n' := 0) B rfl rfl (Nat.le_of_ble_eq_true rfl) (Nat.le_of_ble_eq_true rfl) (fun b hb => zr_V B hR kV_yX3_leavingAt km_10_63 kx_3 (gPlan_s hG) [.int 0] rfl rfl (Nat.le_of_ble_eq_true rfl) dX10_doFirstStop_42 (m_Plan_leavingAt hX hG 0 M4 b hb) ⟨Nat.le_of_ble_eq_true rfl, Nat.le_of_ble_eq_true rfl⟩ ⟨Nat.le_of_ble_eq_true rfl, Nat.le_of_ble_eq_true rfl⟩) (fun x5 _ => ?_)
  refine zk_aload_n (pc := 45) B dX10_doFirstStop_45 2 rfl rfl ?_
  refine zk_getr (pc := 46) B kx_10 (gTraffic_s hG) 2 (by decide) kf_10_26 rfl (gTraffic_f2 hG) dX10_doFirstStop_46 ?_
  refine zk_iconst (v := 0) (pc := 49) B dX10_doFirstStop_49 (by decide) ?_
  refine zk_cpi (pc := 50) (k' := 0) (n' := 0) B rfl rfl (Nat.le_of_ble_eq_true rfl) (Nat.le_of_ble_eq_true rfl) (fun b hb => zr_V B hR kV_yX3_wayTo km_10_78 kx_3 (gPlan_s hG) [.int 0] rfl rfl (Nat.le_of_ble_eq_true rfl) dX10_doFirstStop_50 (m_Plan_wayTo hX hG 0 M4 b hb) ⟨Nat.le_of_ble_eq_true rfl, Nat.le_of_ble_eq_true rfl⟩ ⟨Nat.le_of_ble_eq_true rfl, Nat.le_of_ble_eq_true rfl⟩) (fun x6 _ => ?_)
  refine zk_cpi (pc := 53) (k' := 0) (n' := 0) B rfl rfl (Nat.le_of_ble_eq_true rfl) (Nat.le_of_ble_eq_true rfl) (fun b hb => zr_V B hR kV_yX3_stintBehind km_10_91 kx_3 (gPlan_s hG) [.int (M4.1 r0 5), .int (M4.1 r0 2), .int x5, .int x6] rfl rfl (Nat.le_of_ble_eq_true rfl) dX10_doFirstStop_53 (m_Plan_stintBehind hX hG (M4.1 r0 5) (M4.1 r0 2) x5 x6 M4 b hb) ⟨Nat.le_of_ble_eq_true rfl, Nat.le_of_ble_eq_true rfl⟩ ⟨Nat.le_of_ble_eq_true rfl, Nat.le_of_ble_eq_true rfl⟩) (fun x7 _ => ?_)
  refine zk_puti (pc := 56) B kx_6 (gTaxi_s hr0) 5 (by decide) kf_10_85 rfl rfl rfl rfl dX10_doFirstStop_56 ?_
  refine zk_lm (fun M8 => ?_)
  refine zk_aload_n (pc := 59) B dX10_doFirstStop_59 3 rfl rfl ?_
  refine zk_aload_n (pc := 60) B dX10_doFirstStop_60 2 rfl rfl ?_
  refine zk_getr (pc := 61) B kx_10 (gTraffic_s hG) 1 (by decide) kf_10_22 rfl (gTraffic_f1 hG) dX10_doFirstStop_61 ?_
  refine zk_iload_n (pc := 64) B dX10_doFirstStop_64 1 rfl rfl ?_
  refine zk_cpi (pc := 65) (k' := 0) (n' := 0) B rfl rfl (Nat.le_of_ble_eq_true rfl) (Nat.le_of_ble_eq_true rfl) (fun b hb => zr_V B hR kV_yX0_zoneOfStop km_10_95 kx_0 (gDesk_s (gTraffic_t1 hG)) [.int x1] rfl rfl (Nat.le_of_ble_eq_true rfl) dX10_doFirstStop_65 (m_Desk_zoneOfStop hX (gTraffic_t1 hG) x1 M8 b hb) ⟨Nat.le_of_ble_eq_true rfl, Nat.le_of_ble_eq_true rfl⟩ ⟨Nat.le_of_ble_eq_true rfl, Nat.le_of_ble_eq_true rfl⟩) (fun x9 _ => ?_)
  refine zk_puti (pc := 68) B kx_6 (gTaxi_s hr0) 1 (by decide) kf_10_98 rfl rfl rfl rfl dX10_doFirstStop_68 ?_
  refine zk_lm (fun M10 => ?_)
  refine zk_aload_n (pc := 71) B dX10_doFirstStop_71 3 rfl rfl ?_
  refine zk_aload_n (pc := 72) B dX10_doFirstStop_72 2 rfl rfl ?_
  refine zk_getr (pc := 73) B kx_10 (gTraffic_s hG) 2 (by decide) kf_10_26 rfl (gTraffic_f2 hG) dX10_doFirstStop_73 ?_
  refine zk_iconst (v := 0) (pc := 76) B dX10_doFirstStop_76 (by decide) ?_
  refine zk_cpi (pc := 77) (k' := 0) (n' := 0) B rfl rfl (Nat.le_of_ble_eq_true rfl) (Nat.le_of_ble_eq_true rfl) (fun b hb => zr_V B hR kV_yX3_doneAt km_10_59 kx_3 (gPlan_s hG) [.int 0] rfl rfl (Nat.le_of_ble_eq_true rfl) dX10_doFirstStop_77 (m_Plan_doneAt hX hG 0 M10 b hb) ⟨Nat.le_of_ble_eq_true rfl, Nat.le_of_ble_eq_true rfl⟩ ⟨Nat.le_of_ble_eq_true rfl, Nat.le_of_ble_eq_true rfl⟩) (fun x11 _ => ?_)
  refine zk_puti (pc := 80) B kx_6 (gTaxi_s hr0) 2 (by decide) kf_10_88 rfl rfl rfl rfl dX10_doFirstStop_80 ?_
  refine zk_lm (fun M12 => ?_)
  refine zk_aload_n (pc := 83) B dX10_doFirstStop_83 3 rfl rfl ?_
  refine zk_iconst (v := (-1)) (pc := 84) B dX10_doFirstStop_84 (by decide) ?_
  refine zk_puti (pc := 85) B kx_6 (gTaxi_s hr0) 6 (by decide) kf_10_66 rfl rfl rfl rfl dX10_doFirstStop_85 ?_
  refine zk_lm (fun M13 => ?_)
  refine zk_aload_n (pc := 88) B dX10_doFirstStop_88 3 rfl rfl ?_
  refine zk_iload_n (pc := 89) B dX10_doFirstStop_89 1 rfl rfl ?_
  refine zk_cvm (pc := 90) (k' := 0) (n' := 0) B rfl rfl (Nat.le_of_ble_eq_true rfl) (Nat.le_of_ble_eq_true rfl) (fun b hb => zr_V B hR kV_yX6_removeStop km_10_101 kx_6 (gTaxi_s hr0) [.int x1] rfl rfl (Nat.le_of_ble_eq_true rfl) dX10_doFirstStop_90 (m_Taxi_removeStop hX hr0 x1 M13 b hb) ⟨Nat.le_of_ble_eq_true rfl, Nat.le_of_ble_eq_true rfl⟩ ⟨Nat.le_of_ble_eq_true rfl, Nat.le_of_ble_eq_true rfl⟩) (fun M14 => ?_)
  refine zk_iload_n (pc := 93) B dX10_doFirstStop_93 1 rfl rfl ?_
  refine zk_cpi (pc := 94) (k' := 0) (n' := 0) B rfl rfl (Nat.le_of_ble_eq_true rfl) (Nat.le_of_ble_eq_true rfl) (fun b hb => zr_S B hR kS_yX0_isPickup km_10_105 [.int x1] rfl rfl (Nat.le_of_ble_eq_true rfl) dX10_doFirstStop_94 (m_Desk_isPickup hX x1 M14 b hb) ⟨Nat.le_of_ble_eq_true rfl, Nat.le_of_ble_eq_true rfl⟩ ⟨Nat.le_of_ble_eq_true rfl, Nat.le_of_ble_eq_true rfl⟩) (fun x15 _ => ?_)
  refine zk_if_eq (tgt := 109) (pc := 97) B dX10_doFirstStop_97 (by decide) (fun _ => ?_) (fun _ => ?_)
  · refine zk_aload_n (pc := 109) B dX10_doFirstStop_109 2 rfl rfl ?_
    refine zk_aload_n (pc := 110) B dX10_doFirstStop_110 3 rfl rfl ?_
    refine zk_iload_n (pc := 111) B dX10_doFirstStop_111 0 rfl rfl ?_
    refine zk_cvm (pc := 112) (k' := 0) (n' := 0) B rfl rfl (Nat.le_of_ble_eq_true rfl) (Nat.le_of_ble_eq_true rfl) (fun b hb => zr_V B hR kV_yX10_endDrop km_10_112 kx_10 (gTraffic_s hG) [.ref r0, .int x2] rfl rfl (Nat.le_of_ble_eq_true rfl) dX10_doFirstStop_112 (m_Traffic_endDrop hX hG hr0 x2 M14 b hb) ⟨Nat.le_of_ble_eq_true rfl, Nat.le_of_ble_eq_true rfl⟩ ⟨Nat.le_of_ble_eq_true rfl, Nat.le_of_ble_eq_true rfl⟩) (fun M16 => ?_)
    exact zk_vret (pc := 115) B dX10_doFirstStop_115 rfl (Nat.le_of_ble_eq_true rfl) (Nat.le_of_ble_eq_true rfl) rfl
  · refine zk_aload_n (pc := 100) B dX10_doFirstStop_100 2 rfl rfl ?_
    refine zk_aload_n (pc := 101) B dX10_doFirstStop_101 3 rfl rfl ?_
    refine zk_iload_n (pc := 102) B dX10_doFirstStop_102 0 rfl rfl ?_
    refine zk_cvm (pc := 103) (k' := 0) (n' := 0) B rfl rfl (Nat.le_of_ble_eq_true rfl) (Nat.le_of_ble_eq_true rfl) (fun b hb => zr_V B hR kV_yX10_endPickup km_10_109 kx_10 (gTraffic_s hG) [.ref r0, .int x2] rfl rfl (Nat.le_of_ble_eq_true rfl) dX10_doFirstStop_103 (m_Traffic_endPickup hX hG hr0 x2 M14 b hb) ⟨Nat.le_of_ble_eq_true rfl, Nat.le_of_ble_eq_true rfl⟩ ⟨Nat.le_of_ble_eq_true rfl, Nat.le_of_ble_eq_true rfl⟩) (fun M17 => ?_)
    refine zk_goto (tgt := 115) (pc := 106) B dX10_doFirstStop_106 (by decide) ?_
    exact zk_vret (pc := 115) B dX10_doFirstStop_115 rfl (Nat.le_of_ble_eq_true rfl) (Nat.le_of_ble_eq_true rfl) rfl
set_option maxHeartbeats 4000000 in
set_option maxRecDepth 100000 in
theorem m_Traffic_driveTill {X : z_X} (hX : z_ok X) {G : z_Gr} {o : Nat} (hG : g_Sys G o) {r0 : Nat} (hr0 : g_Taxi G r0) (p1 : Int32) (M : z_Mem) (b : Int32 × z_Mem) (h : F_Traffic_driveTill o r0 p1 M = some b) : z_Ct X yX10_driveTill cX10_driveTill 5 (some .int) ({ frames := 4, cells := 0, slots := 0, locals := 105 } : Room) [.ref (o + 495), .ref r0, .int p1] G M (fun o9 G9 M9 => G9 = G ∧ (o9, M9) = z_cim b) := by
  refine z_enter hX (by decide) (Nat.le_of_ble_eq_true rfl) h (fun F B hR => ?_)
  have J64 : ∀ (v3 : Int32) (s0 : Int32) (s1 : Nat) (hs1 : g_Taxi G s1) (M : z_Mem), z_K X F 5 0 0 G z_cim b 0 0 64 [(3, .int v3)] [.int s0, .ref s1] M (F_Traffic_driveTill_J64 o v3 s0 s1 M) := by
    intro v3 s0 s1 hs1 M
    unfold F_Traffic_driveTill_J64
    refine zk_puti (pc := 64) B kx_6 (gTaxi_s hs1) 6 (by decide) kf_10_66 rfl rfl rfl rfl dX10_driveTill_64 ?_
    refine zk_lm (fun M8 => ?_)
    refine zk_iload_n (pc := 67) B dX10_driveTill_67 0 rfl rfl ?_
    exact zk_iret (pc := 68) B dX10_driveTill_68 rfl rfl (Nat.le_of_ble_eq_true rfl) (Nat.le_of_ble_eq_true rfl) rfl
  have L5 : ∀ (nf5 : Nat), ∀ (u1 : Nat) (hu1 : g_Taxi G u1) (v2 : Int32) (v3 : Int32) (v4 : Int32) (M : z_Mem), z_K X F 5 0 0 G z_cim b 0 0 5 [(0, .ref (o + 495)), (1, .ref u1), (2, .int v2), (3, .int v3), (4, .int v4)] [] M (F_Traffic_driveTill_L5 o nf5 u1 v2 v3 v4 M) := by
    intro nf5
    induction nf5 with
    | zero => intro u1 hu1 v2 v3 v4 M; exact zk_none
    | succ nf5 ih5 =>
      intro u1 hu1 v2 v3 v4 M
      show z_K X F 5 0 0 G z_cim b 0 0 5 [(0, .ref (o + 495)), (1, .ref u1), (2, .int v2), (3, .int v3), (4, .int v4)] [] M (F_Traffic_driveTill_B5 o (F_Traffic_driveTill_L5 o nf5) u1 v2 v3 v4 M)
      unfold F_Traffic_driveTill_B5
      refine zk_iload (pc := 5) B dX10_driveTill_5 4 rfl ?_
      refine zk_bipush (v := 12) (pc := 7) B dX10_driveTill_7 (by decide) ?_
      refine zk_icmp_ge (tgt := 83) (pc := 9) B dX10_driveTill_9 (by decide) (fun _ => ?_) (fun _ => ?_)
      · refine zk_iload_n (pc := 83) B dX10_driveTill_83 3 rfl rfl ?_
        exact zk_iret (pc := 84) B dX10_driveTill_84 rfl rfl (Nat.le_of_ble_eq_true rfl) (Nat.le_of_ble_eq_true rfl) rfl
      · refine zk_aload_n (pc := 12) B dX10_driveTill_12 1 rfl rfl ?_
        refine zk_geti (pc := 13) B kx_6 (gTaxi_s hu1) 7 (by decide) kf_10_50 rfl dX10_driveTill_13 ?_
        refine zk_if_le (tgt := 83) (pc := 16) B dX10_driveTill_16 (by decide) (fun _ => ?_) (fun _ => ?_)
        · refine zk_iload_n (pc := 83) B dX10_driveTill_83 3 rfl rfl ?_
          exact zk_iret (pc := 84) B dX10_driveTill_84 rfl rfl (Nat.le_of_ble_eq_true rfl) (Nat.le_of_ble_eq_true rfl) rfl
        · refine zk_aload_n (pc := 19) B dX10_driveTill_19 0 rfl rfl ?_
          refine zk_getr (pc := 20) B kx_10 (gTraffic_s hG) 2 (by decide) kf_10_26 rfl (gTraffic_f2 hG) dX10_driveTill_20 ?_
          refine zk_aload_n (pc := 23) B dX10_driveTill_23 1 rfl rfl ?_
          refine zk_cvm (pc := 24) (k' := 0) (n' := 0) B rfl rfl (Nat.le_of_ble_eq_true rfl) (Nat.le_of_ble_eq_true rfl) (fun b hb => zr_V B hR kV_yX3_planRoute km_10_53 kx_3 (gPlan_s hG) [.ref u1] rfl rfl (Nat.le_of_ble_eq_true rfl) dX10_driveTill_24 (m_Plan_planRoute hX hG hu1 M b hb) ⟨Nat.le_of_ble_eq_true rfl, Nat.le_of_ble_eq_true rfl⟩ ⟨Nat.le_of_ble_eq_true rfl, Nat.le_of_ble_eq_true rfl⟩) (fun M1 => ?_)
          refine zk_aload_n (pc := 27) B dX10_driveTill_27 0 rfl rfl ?_
          refine zk_getr (pc := 28) B kx_10 (gTraffic_s hG) 2 (by decide) kf_10_26 rfl (gTraffic_f2 hG) dX10_driveTill_28 ?_
          refine zk_iconst (v := 0) (pc := 31) B dX10_driveTill_31 (by decide) ?_
          refine zk_cpi (pc := 32) (k' := 0) (n' := 0) B rfl rfl (Nat.le_of_ble_eq_true rfl) (Nat.le_of_ble_eq_true rfl) (fun b hb => zr_V B hR kV_yX3_doneAt km_10_59 kx_3 (gPlan_s hG) [.int 0] rfl rfl (Nat.le_of_ble_eq_true rfl) dX10_driveTill_32 (m_Plan_doneAt hX hG 0 M1 b hb) ⟨Nat.le_of_ble_eq_true rfl, Nat.le_of_ble_eq_true rfl⟩ ⟨Nat.le_of_ble_eq_true rfl, Nat.le_of_ble_eq_true rfl⟩) (fun x2 _ => ?_)
          refine zk_iload_n (pc := 35) B dX10_driveTill_35 2 rfl rfl ?_
          refine zk_icmp_le (tgt := 69) (pc := 36) B dX10_driveTill_36 (by decide) (fun _ => ?_) (fun _ => ?_)
          · refine zk_aload_n (pc := 69) B dX10_driveTill_69 0 rfl rfl ?_
            refine zk_aload_n (pc := 70) B dX10_driveTill_70 1 rfl rfl ?_
            refine zk_cvm (pc := 71) (k' := 0) (n' := 0) B rfl rfl (Nat.le_of_ble_eq_true rfl) (Nat.le_of_ble_eq_true rfl) (fun b hb => zr_V B hR kV_yX10_doFirstStop km_10_69 kx_10 (gTraffic_s hG) [.ref u1] rfl rfl (Nat.le_of_ble_eq_true rfl) dX10_driveTill_71 (m_Traffic_doFirstStop hX hG hu1 M1 b hb) ⟨Nat.le_of_ble_eq_true rfl, Nat.le_of_ble_eq_true rfl⟩ ⟨Nat.le_of_ble_eq_true rfl, Nat.le_of_ble_eq_true rfl⟩) (fun M3 => ?_)
            refine zk_iinc (y := 1) (lf := fun x4 => [(3, .int x4), (0, .ref (o + 495)), (1, .ref u1), (2, .int v2), (4, .int v4)]) (pc := 74) B dX10_driveTill_74 3 rfl (by decide) (by decide) (fun _ => rfl) (fun x4 => ?_)
            refine zk_iinc (y := 1) (lf := fun x5 => [(4, .int x5), (3, .int x4), (0, .ref (o + 495)), (1, .ref u1), (2, .int v2)]) (pc := 77) B dX10_driveTill_77 4 rfl (by decide) (by decide) (fun _ => rfl) (fun x5 => ?_)
            refine zk_goto (tgt := 5) (pc := 80) B dX10_driveTill_80 (by decide) ?_
            refine zk_sub [2, 3, 4, 1, 0] rfl ?_
            exact ih5 u1 hu1 v2 x4 x5 M3
          · refine zk_aload_n (pc := 39) B dX10_driveTill_39 1 rfl rfl ?_
            refine zk_aload_n (pc := 40) B dX10_driveTill_40 0 rfl rfl ?_
            refine zk_getr (pc := 41) B kx_10 (gTraffic_s hG) 2 (by decide) kf_10_26 rfl (gTraffic_f2 hG) dX10_driveTill_41 ?_
            refine zk_iconst (v := 0) (pc := 44) B dX10_driveTill_44 (by decide) ?_
            refine zk_cpi (pc := 45) (k' := 0) (n' := 0) B rfl rfl (Nat.le_of_ble_eq_true rfl) (Nat.le_of_ble_eq_true rfl) (fun b hb => zr_V B hR kV_yX3_leavingAt km_10_63 kx_3 (gPlan_s hG) [.int 0] rfl rfl (Nat.le_of_ble_eq_true rfl) dX10_driveTill_45 (m_Plan_leavingAt hX hG 0 M1 b hb) ⟨Nat.le_of_ble_eq_true rfl, Nat.le_of_ble_eq_true rfl⟩ ⟨Nat.le_of_ble_eq_true rfl, Nat.le_of_ble_eq_true rfl⟩) (fun x6 _ => ?_)
            refine zk_iload_n (pc := 48) B dX10_driveTill_48 2 rfl rfl ?_
            refine zk_icmp_ge (tgt := 63) (pc := 49) B dX10_driveTill_49 (by decide) (fun _ => ?_) (fun _ => ?_)
            · refine zk_iconst (v := (-1)) (pc := 63) B dX10_driveTill_63 (by decide) ?_
              refine zk_sub [3] rfl ?_
              exact J64 v3 (-1) u1 hu1 M1
            · refine zk_aload_n (pc := 52) B dX10_driveTill_52 0 rfl rfl ?_
              refine zk_getr (pc := 53) B kx_10 (gTraffic_s hG) 2 (by decide) kf_10_26 rfl (gTraffic_f2 hG) dX10_driveTill_53 ?_
              refine zk_iconst (v := 0) (pc := 56) B dX10_driveTill_56 (by decide) ?_
              refine zk_cpi (pc := 57) (k' := 0) (n' := 0) B rfl rfl (Nat.le_of_ble_eq_true rfl) (Nat.le_of_ble_eq_true rfl) (fun b hb => zr_V B hR kV_yX3_leavingAt km_10_63 kx_3 (gPlan_s hG) [.int 0] rfl rfl (Nat.le_of_ble_eq_true rfl) dX10_driveTill_57 (m_Plan_leavingAt hX hG 0 M1 b hb) ⟨Nat.le_of_ble_eq_true rfl, Nat.le_of_ble_eq_true rfl⟩ ⟨Nat.le_of_ble_eq_true rfl, Nat.le_of_ble_eq_true rfl⟩) (fun x7 _ => ?_)
              refine zk_goto (tgt := 64) (pc := 60) B dX10_driveTill_60 (by decide) ?_
              refine zk_sub [3] rfl ?_
              exact J64 v3 x7 u1 hu1 M1
  show z_K X F 5 0 0 G z_cim b 0 0 0 [(0, .ref (o + 495)), (1, .ref r0), (2, .int p1)] [] M (F_Traffic_driveTill o r0 p1 M)
  unfold F_Traffic_driveTill
  refine zk_iconst (v := 0) (pc := 0) B dX10_driveTill_0 (by decide) ?_
  refine zk_istore_n (loc' := [(3, .int 0), (0, .ref (o + 495)), (1, .ref r0), (2, .int p1)]) (pc := 1) B dX10_driveTill_1 rfl (by decide) rfl ?_
  refine zk_iconst (v := 0) (pc := 2) B dX10_driveTill_2 (by decide) ?_
  refine zk_istore (loc' := [(4, .int 0), (3, .int 0), (0, .ref (o + 495)), (1, .ref r0), (2, .int p1)]) (pc := 3) B dX10_driveTill_3 (by decide) rfl ?_
  refine zk_sub [2, 3, 4, 1, 0] rfl ?_
  exact L5 10000 r0 hr0 p1 0 0 M
set_option maxHeartbeats 4000000 in
set_option maxRecDepth 100000 in
theorem m_Traffic_closeOffers {X : z_X} (hX : z_ok X) {G : z_Gr} {o : Nat} (hG : g_Sys G o) (M : z_Mem) (b : z_Mem) (h : F_Traffic_closeOffers o M = some b) : z_Ct X yX10_closeOffers cX10_closeOffers 3 none ({ frames := 0, cells := 0, slots := 0, locals := 0 } : Room) [.ref (o + 495)] G M (fun o9 G9 M9 => G9 = G ∧ (o9, M9) = z_cvm b) := by
  refine z_enter hX (by decide) (Nat.le_of_ble_eq_true rfl) h (fun F B hR => ?_)
  have L2 : ∀ (nf2 : Nat), ∀ (v1 : Int32) (M : z_Mem), z_K X F 3 0 0 G z_cvm b 0 0 2 [(0, .ref (o + 495)), (1, .int v1)] [] M (F_Traffic_closeOffers_L2 o nf2 v1 M) := by
    intro nf2
    induction nf2 with
    | zero => intro v1 M; exact zk_none
    | succ nf2 ih2 =>
      intro v1 M
      show z_K X F 3 0 0 G z_cvm b 0 0 2 [(0, .ref (o + 495)), (1, .int v1)] [] M (F_Traffic_closeOffers_B2 o (F_Traffic_closeOffers_L2 o nf2) v1 M)
      unfold F_Traffic_closeOffers_B2
      refine zk_iload_n (pc := 2) B dX10_closeOffers_2 1 rfl rfl ?_
      refine zk_aload_n (pc := 3) B dX10_closeOffers_3 0 rfl rfl ?_
      refine zk_getr (pc := 4) B kx_10 (gTraffic_s hG) 1 (by decide) kf_10_22 rfl (gTraffic_f1 hG) dX10_closeOffers_4 ?_
      refine zk_geti (pc := 7) B kx_0 (gDesk_s (gTraffic_t1 hG)) 4 (by decide) kf_10_185 rfl dX10_closeOffers_7 ?_
      refine zk_icmp_ge (tgt := 61) (pc := 10) B dX10_closeOffers_10 (by decide) (fun _ => ?_) (fun _ => ?_)
      · exact zk_vret (pc := 61) B dX10_closeOffers_61 rfl (Nat.le_of_ble_eq_true rfl) (Nat.le_of_ble_eq_true rfl) rfl
      · refine zk_iload_n (pc := 13) B dX10_closeOffers_13 1 rfl rfl ?_
        refine zk_bipush (v := 24) (pc := 14) B dX10_closeOffers_14 (by decide) ?_
        refine zk_icmp_ge (tgt := 61) (pc := 16) B dX10_closeOffers_16 (by decide) (fun _ => ?_) (fun _ => ?_)
        · exact zk_vret (pc := 61) B dX10_closeOffers_61 rfl (Nat.le_of_ble_eq_true rfl) (Nat.le_of_ble_eq_true rfl) rfl
        · refine zk_aload_n (pc := 19) B dX10_closeOffers_19 0 rfl rfl ?_
          refine zk_getr (pc := 20) B kx_10 (gTraffic_s hG) 1 (by decide) kf_10_22 rfl (gTraffic_f1 hG) dX10_closeOffers_20 ?_
          refine zk_getr (pc := 23) B kx_0 (gDesk_s (gTraffic_t1 hG)) 7 (by decide) kf_10_188 rfl (gDesk_f7 (gTraffic_t1 hG)) dX10_closeOffers_23 ?_
          refine zk_iload_n (pc := 26) B dX10_closeOffers_26 1 rfl rfl ?_
          refine zk_aald (pc := 27) B (gDesk_t7 (gTraffic_t1 hG)) (by decide) (by decide) (fun h2 => gDesk_e7 (gTraffic_t1 hG) _ (z_lt h2)) dX10_closeOffers_27 (fun h2 => zk_lr (fun t1 h2e => ?_))
          have ht1 : g_Ride G t1 := by rw [h2e]; exact gDesk_k7 (gTraffic_t1 hG) _ (z_lt h2)
          refine zk_astore_n (loc' := [(2, .ref t1), (0, .ref (o + 495)), (1, .int v1)]) (pc := 28) B dX10_closeOffers_28 rfl (by decide) rfl ?_
          refine zk_aload_n (pc := 29) B dX10_closeOffers_29 0 rfl rfl ?_
          refine zk_geti (pc := 30) B kx_5 (gRide_s ht1) 0 (by decide) kf_10_164 rfl dX10_closeOffers_30 ?_
          refine zk_if_ne (tgt := 55) (pc := 33) B dX10_closeOffers_33 (by decide) (fun _ => ?_) (fun _ => ?_)
          · refine zk_iinc (y := 1) (lf := fun x3 => [(1, .int x3), (2, .ref t1), (0, .ref (o + 495))]) (pc := 55) B dX10_closeOffers_55 2 rfl (by decide) (by decide) (fun _ => rfl) (fun x3 => ?_)
            refine zk_goto (tgt := 2) (pc := 58) B dX10_closeOffers_58 (by decide) ?_
            refine zk_sub [2, 0] rfl ?_
            exact ih2 x3 M
          · refine zk_aload_n (pc := 36) B dX10_closeOffers_36 1 rfl rfl ?_
            refine zk_getr (pc := 37) B kx_10 (gTraffic_s hG) 1 (by decide) kf_10_22 rfl (gTraffic_f1 hG) dX10_closeOffers_37 ?_
            refine zk_geti (pc := 40) B kx_0 (gDesk_s (gTraffic_t1 hG)) 0 (by decide) kf_10_30 rfl dX10_closeOffers_40 ?_
            refine zk_aload_n (pc := 43) B dX10_closeOffers_43 0 rfl rfl ?_
            refine zk_geti (pc := 44) B kx_5 (gRide_s ht1) 18 (by decide) kf_10_192 rfl dX10_closeOffers_44 ?_
            refine zk_icmp_le (tgt := 55) (pc := 47) B dX10_closeOffers_47 (by decide) (fun _ => ?_) (fun _ => ?_)
            · refine zk_iinc (y := 1) (lf := fun x4 => [(1, .int x4), (2, .ref t1), (0, .ref (o + 495))]) (pc := 55) B dX10_closeOffers_55 2 rfl (by decide) (by decide) (fun _ => rfl) (fun x4 => ?_)
              refine zk_goto (tgt := 2) (pc := 58) B dX10_closeOffers_58 (by decide) ?_
              refine zk_sub [2, 0] rfl ?_
              exact ih2 x4 M
            · refine zk_aload_n (pc := 50) B dX10_closeOffers_50 0 rfl rfl ?_
              refine zk_iconst (v := 4) (pc := 51) B dX10_closeOffers_51 (by decide) ?_
              refine zk_puti (pc := 52) B kx_5 (gRide_s ht1) 0 (by decide) kf_10_164 rfl rfl rfl rfl dX10_closeOffers_52 ?_
              refine zk_lm (fun M5 => ?_)
              refine zk_iinc (y := 1) (lf := fun x6 => [(1, .int x6), (2, .ref t1), (0, .ref (o + 495))]) (pc := 55) B dX10_closeOffers_55 2 rfl (by decide) (by decide) (fun _ => rfl) (fun x6 => ?_)
              refine zk_goto (tgt := 2) (pc := 58) B dX10_closeOffers_58 (by decide) ?_
              refine zk_sub [2, 0] rfl ?_
              exact ih2 x6 M5
  show z_K X F 3 0 0 G z_cvm b 0 0 0 [(0, .ref (o + 495))] [] M (F_Traffic_closeOffers o M)
  unfold F_Traffic_closeOffers
  refine zk_iconst (v := 0) (pc := 0) B dX10_closeOffers_0 (by decide) ?_
  refine zk_istore_n (loc' := [(1, .int 0), (0, .ref (o + 495))]) (pc := 1) B dX10_closeOffers_1 rfl (by decide) rfl ?_
  refine zk_sub [1, 0] rfl ?_
  exact L2 10000 0 M
set_option maxHeartbeats 4000000 in
set_option maxRecDepth 100000 in
theorem m_Traffic_passMinutes {X : z_X} (hX : z_ok X) {G : z_Gr} {o : Nat} (hG : g_Sys G o) (p0 : Int32) (M : z_Mem) (b : Int32 × z_Mem) (h : F_Traffic_passMinutes o p0 M = some b) : z_Ct X yX10_passMinutes cX10_passMinutes 5 (some .int) ({ frames := 5, cells := 0, slots := 0, locals := 129 } : Room) [.ref (o + 495), .int p0] G M (fun o9 G9 M9 => G9 = G ∧ (o9, M9) = z_cim b) := by
  refine z_enter hX (by decide) (Nat.le_of_ble_eq_true rfl) h (fun F B hR => ?_)
  have J57 : ∀ (v2 : Int32) (v3 : Int32) (M : z_Mem), z_K X F 5 0 0 G z_cim b 0 0 57 [(0, .ref (o + 495)), (2, .int v2), (3, .int v3)] [] M (F_Traffic_passMinutes_J57 o v2 v3 M) := by
    intro v2 v3 M
    unfold F_Traffic_passMinutes_J57
    refine zk_aload_n (pc := 57) B dX10_passMinutes_57 0 rfl rfl ?_
    refine zk_getr (pc := 58) B kx_10 (gTraffic_s hG) 1 (by decide) kf_10_22 rfl (gTraffic_f1 hG) dX10_passMinutes_58 ?_
    refine zk_iload_n (pc := 61) B dX10_passMinutes_61 1 rfl rfl ?_
    refine zk_puti (pc := 62) B kx_0 (gDesk_s (gTraffic_t1 hG)) 0 (by decide) kf_10_30 rfl rfl rfl rfl dX10_passMinutes_62 ?_
    refine zk_lm (fun M8 => ?_)
    refine zk_aload_n (pc := 65) B dX10_passMinutes_65 0 rfl rfl ?_
    refine zk_cvm (pc := 66) (k' := 0) (n' := 0) B rfl rfl (Nat.le_of_ble_eq_true rfl) (Nat.le_of_ble_eq_true rfl) (fun b hb => zr_V B hR kV_yX10_closeOffers km_10_47 kx_10 (gTraffic_s hG) [] rfl rfl (Nat.le_of_ble_eq_true rfl) dX10_passMinutes_66 (m_Traffic_closeOffers hX hG M8 b hb) ⟨Nat.le_of_ble_eq_true rfl, Nat.le_of_ble_eq_true rfl⟩ ⟨Nat.le_of_ble_eq_true rfl, Nat.le_of_ble_eq_true rfl⟩) (fun M9 => ?_)
    refine zk_iload_n (pc := 69) B dX10_passMinutes_69 2 rfl rfl ?_
    exact zk_iret (pc := 70) B dX10_passMinutes_70 rfl rfl (Nat.le_of_ble_eq_true rfl) (Nat.le_of_ble_eq_true rfl) rfl
  have L15 : ∀ (nf15 : Nat), ∀ (v2 : Int32) (v3 : Int32) (v4 : Int32) (M : z_Mem), z_K X F 5 0 0 G z_cim b 0 0 15 [(0, .ref (o + 495)), (2, .int v2), (3, .int v3), (4, .int v4)] [] M (F_Traffic_passMinutes_L15 o nf15 v2 v3 v4 M) := by
    intro nf15
    induction nf15 with
    | zero => intro v2 v3 v4 M; exact zk_none
    | succ nf15 ih15 =>
      intro v2 v3 v4 M
      show z_K X F 5 0 0 G z_cim b 0 0 15 [(0, .ref (o + 495)), (2, .int v2), (3, .int v3), (4, .int v4)] [] M (F_Traffic_passMinutes_B15 o (F_Traffic_passMinutes_L15 o nf15) v2 v3 v4 M)
      unfold F_Traffic_passMinutes_B15
      refine zk_iload (pc := 15) B dX10_passMinutes_15 3 rfl ?_
      refine zk_aload_n (pc := 17) B dX10_passMinutes_17 0 rfl rfl ?_
      refine zk_getr (pc := 18) B kx_10 (gTraffic_s hG) 1 (by decide) kf_10_22 rfl (gTraffic_f1 hG) dX10_passMinutes_18 ?_
      refine zk_geti (pc := 21) B kx_0 (gDesk_s (gTraffic_t1 hG)) 3 (by decide) kf_10_36 rfl dX10_passMinutes_21 ?_
      refine zk_icmp_ge (tgt := 57) (pc := 24) B dX10_passMinutes_24 (by decide) (fun _ => ?_) (fun _ => ?_)
      · refine zk_sub [0, 1, 2] rfl ?_
        exact J57 v2 v3 M
      · refine zk_iload (pc := 27) B dX10_passMinutes_27 3 rfl ?_
        refine zk_iconst (v := 4) (pc := 29) B dX10_passMinutes_29 (by decide) ?_
        refine zk_icmp_ge (tgt := 57) (pc := 30) B dX10_passMinutes_30 (by decide) (fun _ => ?_) (fun _ => ?_)
        · refine zk_sub [0, 1, 2] rfl ?_
          exact J57 v2 v3 M
        · refine zk_iload_n (pc := 33) B dX10_passMinutes_33 2 rfl rfl ?_
          refine zk_aload_n (pc := 34) B dX10_passMinutes_34 0 rfl rfl ?_
          refine zk_aload_n (pc := 35) B dX10_passMinutes_35 0 rfl rfl ?_
          refine zk_getr (pc := 36) B kx_10 (gTraffic_s hG) 1 (by decide) kf_10_22 rfl (gTraffic_f1 hG) dX10_passMinutes_36 ?_
          refine zk_getr (pc := 39) B kx_0 (gDesk_s (gTraffic_t1 hG)) 6 (by decide) kf_10_39 rfl (gDesk_f6 (gTraffic_t1 hG)) dX10_passMinutes_39 ?_
          refine zk_iload (pc := 42) B dX10_passMinutes_42 3 rfl ?_
          refine zk_aald (pc := 44) B (gDesk_t6 (gTraffic_t1 hG)) (by decide) (by decide) (fun h3 => gDesk_e6 (gTraffic_t1 hG) _ (z_lt h3)) dX10_passMinutes_44 (fun h3 => zk_lr (fun t2 h3e => ?_))
          have ht2 : g_Taxi G t2 := by rw [h3e]; exact gDesk_k6 (gTraffic_t1 hG) _ (z_lt h3)
          refine zk_iload_n (pc := 45) B dX10_passMinutes_45 1 rfl rfl ?_
          refine zk_cim (pc := 46) (k' := 0) (n' := 0) B rfl rfl (Nat.le_of_ble_eq_true rfl) (Nat.le_of_ble_eq_true rfl) (fun b hb => zr_V B hR kV_yX10_driveTill km_10_43 kx_10 (gTraffic_s hG) [.ref t2, .int v2] rfl rfl (Nat.le_of_ble_eq_true rfl) dX10_passMinutes_46 (m_Traffic_driveTill hX hG ht2 v2 M b hb) ⟨Nat.le_of_ble_eq_true rfl, Nat.le_of_ble_eq_true rfl⟩ ⟨Nat.le_of_ble_eq_true rfl, Nat.le_of_ble_eq_true rfl⟩) (fun x5 M4 => ?_)
          refine zk_iadd (pc := 49) B dX10_passMinutes_49 ?_
          refine zk_li (fun x6 => ?_)
          refine zk_istore_n (loc' := [(3, .int x6), (0, .ref (o + 495)), (2, .int v2), (4, .int v4)]) (pc := 50) B dX10_passMinutes_50 rfl (by decide) rfl ?_
          refine zk_iinc (y := 1) (lf := fun x7 => [(4, .int x7), (3, .int x6), (0, .ref (o + 495)), (2, .int v2)]) (pc := 51) B dX10_passMinutes_51 3 rfl (by decide) (by decide) (fun _ => rfl) (fun x7 => ?_)
          refine zk_goto (tgt := 15) (pc := 54) B dX10_passMinutes_54 (by decide) ?_
          refine zk_sub [2, 3, 1, 0] rfl ?_
          exact ih15 v2 x6 x7 M4
  show z_K X F 5 0 0 G z_cim b 0 0 0 [(0, .ref (o + 495)), (1, .int p0)] [] M (F_Traffic_passMinutes o p0 M)
  unfold F_Traffic_passMinutes
  refine zk_aload_n (pc := 0) B dX10_passMinutes_0 0 rfl rfl ?_
  refine zk_getr (pc := 1) B kx_10 (gTraffic_s hG) 1 (by decide) kf_10_22 rfl (gTraffic_f1 hG) dX10_passMinutes_1 ?_
  refine zk_geti (pc := 4) B kx_0 (gDesk_s (gTraffic_t1 hG)) 0 (by decide) kf_10_30 rfl dX10_passMinutes_4 ?_
  refine zk_iload_n (pc := 7) B dX10_passMinutes_7 1 rfl rfl ?_
  refine zk_iadd (pc := 8) B dX10_passMinutes_8 ?_
  refine zk_li (fun x1 => ?_)
  refine zk_istore_n (loc' := [(2, .int x1), (0, .ref (o + 495)), (1, .int p0)]) (pc := 9) B dX10_passMinutes_9 rfl (by decide) rfl ?_
  refine zk_iconst (v := 0) (pc := 10) B dX10_passMinutes_10 (by decide) ?_
  refine zk_istore_n (loc' := [(3, .int 0), (2, .int x1), (0, .ref (o + 495)), (1, .int p0)]) (pc := 11) B dX10_passMinutes_11 rfl (by decide) rfl ?_
  refine zk_iconst (v := 0) (pc := 12) B dX10_passMinutes_12 (by decide) ?_
  refine zk_istore (loc' := [(4, .int 0), (3, .int 0), (2, .int x1), (0, .ref (o + 495)), (1, .int p0)]) (pc := 13) B dX10_passMinutes_13 (by decide) rfl ?_
  refine zk_sub [3, 2, 1, 0] rfl ?_
  exact L15 10000 x1 0 0 M
set_option maxHeartbeats 4000000 in
set_option maxRecDepth 100000 in
theorem m_Sys_appendFourBytes {X : z_X} (hX : z_ok X) {G : z_Gr} {o : Nat} (hG : g_Sys G o) (p0 : Int32) (M : z_Mem) (b : z_Mem) (h : F_Sys_appendFourBytes o p0 M = some b) : z_Ct X yX11_appendFourBytes cX11_appendFourBytes 3 none ({ frames := 0, cells := 0, slots := 0, locals := 0 } : Room) [.ref o, .int p0] G M (fun o9 G9 M9 => G9 = G ∧ (o9, M9) = z_cvm b) := by
  refine z_enter hX (by decide) (Nat.le_of_ble_eq_true rfl) h (fun F B hR => ?_)
  have L3 : ∀ (nf3 : Nat), ∀ (v1 : Int32) (v2 : Int32) (M : z_Mem), z_K X F 3 0 0 G z_cvm b 0 0 3 [(0, .ref o), (1, .int v1), (2, .int v2)] [] M (F_Sys_appendFourBytes_L3 o nf3 v1 v2 M) := by
    intro nf3
    induction nf3 with
    | zero => intro v1 v2 M; exact zk_none
    | succ nf3 ih3 =>
      intro v1 v2 M
      show z_K X F 3 0 0 G z_cvm b 0 0 3 [(0, .ref o), (1, .int v1), (2, .int v2)] [] M (F_Sys_appendFourBytes_B3 o (F_Sys_appendFourBytes_L3 o nf3) v1 v2 M)
      unfold F_Sys_appendFourBytes_B3
      refine zk_iload_n (pc := 3) B dX11_appendFourBytes_3 2 rfl rfl ?_
      refine zk_if_lt (tgt := 55) (pc := 4) B dX11_appendFourBytes_4 (by decide) (fun _ => ?_) (fun _ => ?_)
      · exact zk_vret (pc := 55) B dX11_appendFourBytes_55 rfl (Nat.le_of_ble_eq_true rfl) (Nat.le_of_ble_eq_true rfl) rfl
      · refine zk_aload_n (pc := 7) B dX11_appendFourBytes_7 0 rfl rfl ?_
        refine zk_geti (pc := 8) B kx_11 (gSys_s hG) 1 (by decide) kf_11_13 rfl dX11_appendFourBytes_8 ?_
        refine zk_if_lt (tgt := 49) (pc := 11) B dX11_appendFourBytes_11 (by decide) (fun _ => ?_) (fun _ => ?_)
        · refine zk_iinc (y := (-8)) (lf := fun x1 => [(2, .int x1), (0, .ref o), (1, .int v1)]) (pc := 49) B dX11_appendFourBytes_49 2 rfl (by decide) (by decide) (fun _ => rfl) (fun x1 => ?_)
          refine zk_goto (tgt := 3) (pc := 52) B dX11_appendFourBytes_52 (by decide) ?_
          refine zk_sub [1, 2, 0] rfl ?_
          exact ih3 v1 x1 M
        · refine zk_aload_n (pc := 14) B dX11_appendFourBytes_14 0 rfl rfl ?_
          refine zk_geti (pc := 15) B kx_11 (gSys_s hG) 1 (by decide) kf_11_13 rfl dX11_appendFourBytes_15 ?_
          refine zk_aload_n (pc := 18) B dX11_appendFourBytes_18 0 rfl rfl ?_
          refine zk_getr (pc := 19) B kx_11 (gSys_s hG) 0 (by decide) kf_11_9 rfl (gSys_f0 hG) dX11_appendFourBytes_19 ?_
          refine zk_alen (v := 800) (pc := 22) B (gSys_t0 hG) (by decide) (by decide) dX11_appendFourBytes_22 ?_
          refine zk_icmp_ge (tgt := 49) (pc := 23) B dX11_appendFourBytes_23 (by decide) (fun _ => ?_) (fun _ => ?_)
          · refine zk_iinc (y := (-8)) (lf := fun x2 => [(2, .int x2), (0, .ref o), (1, .int v1)]) (pc := 49) B dX11_appendFourBytes_49 2 rfl (by decide) (by decide) (fun _ => rfl) (fun x2 => ?_)
            refine zk_goto (tgt := 3) (pc := 52) B dX11_appendFourBytes_52 (by decide) ?_
            refine zk_sub [1, 2, 0] rfl ?_
            exact ih3 v1 x2 M
          · refine zk_aload_n (pc := 26) B dX11_appendFourBytes_26 0 rfl rfl ?_
            refine zk_getr (pc := 27) B kx_11 (gSys_s hG) 0 (by decide) kf_11_9 rfl (gSys_f0 hG) dX11_appendFourBytes_27 ?_
            refine zk_aload_n (pc := 30) B dX11_appendFourBytes_30 0 rfl rfl ?_
            refine zk_geti (pc := 31) B kx_11 (gSys_s hG) 1 (by decide) kf_11_13 rfl dX11_appendFourBytes_31 ?_
            refine zk_iload_n (pc := 34) B dX11_appendFourBytes_34 1 rfl rfl ?_
            refine zk_iload_n (pc := 35) B dX11_appendFourBytes_35 2 rfl rfl ?_
            refine zk_ishr (pc := 36) B dX11_appendFourBytes_36 ?_
            refine zk_i2b (pc := 37) B dX11_appendFourBytes_37 ?_
            refine zk_bast (pc := 38) B (gSys_t0 hG) dX11_appendFourBytes_38 ?_
            refine zk_lm (fun M3 => ?_)
            refine zk_aload_n (pc := 39) B dX11_appendFourBytes_39 0 rfl rfl ?_
            refine zk_dup (pc := 40) B dX11_appendFourBytes_40 rfl ?_
            refine zk_geti (pc := 41) B kx_11 (gSys_s hG) 1 (by decide) kf_11_13 rfl dX11_appendFourBytes_41 ?_
            refine zk_iconst (v := 1) (pc := 44) B dX11_appendFourBytes_44 (by decide) ?_
            refine zk_iadd (pc := 45) B dX11_appendFourBytes_45 ?_
            refine zk_puti (pc := 46) B kx_11 (gSys_s hG) 1 (by decide) kf_11_13 rfl rfl rfl rfl dX11_appendFourBytes_46 ?_
            refine zk_lm (fun M4 => ?_)
            refine zk_iinc (y := (-8)) (lf := fun x5 => [(2, .int x5), (0, .ref o), (1, .int v1)]) (pc := 49) B dX11_appendFourBytes_49 2 rfl (by decide) (by decide) (fun _ => rfl) (fun x5 => ?_)
            refine zk_goto (tgt := 3) (pc := 52) B dX11_appendFourBytes_52 (by decide) ?_
            refine zk_sub [1, 2, 0] rfl ?_
            exact ih3 v1 x5 M4
  show z_K X F 3 0 0 G z_cvm b 0 0 0 [(0, .ref o), (1, .int p0)] [] M (F_Sys_appendFourBytes o p0 M)
  unfold F_Sys_appendFourBytes
  refine zk_bipush (v := 24) (pc := 0) B dX11_appendFourBytes_0 (by decide) ?_
  refine zk_istore_n (loc' := [(2, .int 24), (0, .ref o), (1, .int p0)]) (pc := 2) B dX11_appendFourBytes_2 rfl (by decide) rfl ?_
  refine zk_sub [1, 2, 0] rfl ?_
  exact L3 10000 p0 24 M
set_option maxHeartbeats 4000000 in
set_option maxRecDepth 100000 in
theorem m_Sys_feed {X : z_X} (hX : z_ok X) {G : z_Gr} {o : Nat} (hG : g_Sys G o) (p0 : Int32) (p1 : Int32) (p2 : Int32) (p3 : Int32) (p4 : Int32) (M : z_Mem) (b : Int32 × z_Mem) (h : F_Sys_feed o p0 p1 p2 p3 p4 M = some b) : z_Ct X yX11_feed cX11_feed 6 (some .int) ({ frames := 1, cells := 0, slots := 0, locals := 22 } : Room) [.ref o, .int p0, .int p1, .int p2, .int p3, .int p4] G M (fun o9 G9 M9 => G9 = G ∧ (o9, M9) = z_cim b) := by
  refine z_enter hX (by decide) (Nat.le_of_ble_eq_true rfl) h (fun F B hR => ?_)
  show z_K X F 6 0 0 G z_cim b 0 0 0 [(0, .ref o), (1, .int p0), (2, .int p1), (3, .int p2), (4, .int p3), (5, .int p4)] [] M (F_Sys_feed o p0 p1 p2 p3 p4 M)
  unfold F_Sys_feed
  refine zk_aload_n (pc := 0) B dX11_feed_0 0 rfl rfl ?_
  refine zk_geti (pc := 1) B kx_11 (gSys_s hG) 1 (by decide) kf_11_13 rfl dX11_feed_1 ?_
  refine zk_bipush (v := 20) (pc := 4) B dX11_feed_4 (by decide) ?_
  refine zk_iadd (pc := 6) B dX11_feed_6 ?_
  refine zk_sipush (v := 800) (pc := 7) B dX11_feed_7 (by decide) ?_
  refine zk_icmp_le (tgt := 15) (pc := 10) B dX11_feed_10 (by decide) (fun _ => ?_) (fun _ => ?_)
  · refine zk_aload_n (pc := 15) B dX11_feed_15 0 rfl rfl ?_
    refine zk_iload_n (pc := 16) B dX11_feed_16 1 rfl rfl ?_
    refine zk_cvm (pc := 17) (k' := 0) (n' := 0) B rfl rfl (Nat.le_of_ble_eq_true rfl) (Nat.le_of_ble_eq_true rfl) (fun b hb => zr_V B hR kV_yX11_appendFourBytes km_11_114 kx_11 (gSys_s hG) [.int p0] rfl rfl (Nat.le_of_ble_eq_true rfl) dX11_feed_17 (m_Sys_appendFourBytes hX hG p0 M b hb) ⟨Nat.le_of_ble_eq_true rfl, Nat.le_of_ble_eq_true rfl⟩ ⟨Nat.le_of_ble_eq_true rfl, Nat.le_of_ble_eq_true rfl⟩) (fun M1 => ?_)
    refine zk_aload_n (pc := 20) B dX11_feed_20 0 rfl rfl ?_
    refine zk_iload_n (pc := 21) B dX11_feed_21 2 rfl rfl ?_
    refine zk_cvm (pc := 22) (k' := 0) (n' := 0) B rfl rfl (Nat.le_of_ble_eq_true rfl) (Nat.le_of_ble_eq_true rfl) (fun b hb => zr_V B hR kV_yX11_appendFourBytes km_11_114 kx_11 (gSys_s hG) [.int p1] rfl rfl (Nat.le_of_ble_eq_true rfl) dX11_feed_22 (m_Sys_appendFourBytes hX hG p1 M1 b hb) ⟨Nat.le_of_ble_eq_true rfl, Nat.le_of_ble_eq_true rfl⟩ ⟨Nat.le_of_ble_eq_true rfl, Nat.le_of_ble_eq_true rfl⟩) (fun M2 => ?_)
    refine zk_aload_n (pc := 25) B dX11_feed_25 0 rfl rfl ?_
    refine zk_iload_n (pc := 26) B dX11_feed_26 3 rfl rfl ?_
    refine zk_cvm (pc := 27) (k' := 0) (n' := 0) B rfl rfl (Nat.le_of_ble_eq_true rfl) (Nat.le_of_ble_eq_true rfl) (fun b hb => zr_V B hR kV_yX11_appendFourBytes km_11_114 kx_11 (gSys_s hG) [.int p2] rfl rfl (Nat.le_of_ble_eq_true rfl) dX11_feed_27 (m_Sys_appendFourBytes hX hG p2 M2 b hb) ⟨Nat.le_of_ble_eq_true rfl, Nat.le_of_ble_eq_true rfl⟩ ⟨Nat.le_of_ble_eq_true rfl, Nat.le_of_ble_eq_true rfl⟩) (fun M3 => ?_)
    refine zk_aload_n (pc := 30) B dX11_feed_30 0 rfl rfl ?_
    refine zk_iload (pc := 31) B dX11_feed_31 4 rfl ?_
    refine zk_cvm (pc := 33) (k' := 0) (n' := 0) B rfl rfl (Nat.le_of_ble_eq_true rfl) (Nat.le_of_ble_eq_true rfl) (fun b hb => zr_V B hR kV_yX11_appendFourBytes km_11_114 kx_11 (gSys_s hG) [.int p3] rfl rfl (Nat.le_of_ble_eq_true rfl) dX11_feed_33 (m_Sys_appendFourBytes hX hG p3 M3 b hb) ⟨Nat.le_of_ble_eq_true rfl, Nat.le_of_ble_eq_true rfl⟩ ⟨Nat.le_of_ble_eq_true rfl, Nat.le_of_ble_eq_true rfl⟩) (fun M4 => ?_)
    refine zk_aload_n (pc := 36) B dX11_feed_36 0 rfl rfl ?_
    refine zk_iload (pc := 37) B dX11_feed_37 5 rfl ?_
    refine zk_cvm (pc := 39) (k' := 0) (n' := 0) B rfl rfl (Nat.le_of_ble_eq_true rfl) (Nat.le_of_ble_eq_true rfl) (fun b hb => zr_V B hR kV_yX11_appendFourBytes km_11_114 kx_11 (gSys_s hG) [.int p4] rfl rfl (Nat.le_of_ble_eq_true rfl) dX11_feed_39 (m_Sys_appendFourBytes hX hG p4 M4 b hb) ⟨Nat.le_of_ble_eq_true rfl, Nat.le_of_ble_eq_true rfl⟩ ⟨Nat.le_of_ble_eq_true rfl, Nat.le_of_ble_eq_true rfl⟩) (fun M5 => ?_)
    refine zk_aload_n (pc := 42) B dX11_feed_42 0 rfl rfl ?_
    refine zk_geti (pc := 43) B kx_11 (gSys_s hG) 1 (by decide) kf_11_13 rfl dX11_feed_43 ?_
    exact zk_iret (pc := 46) B dX11_feed_46 rfl rfl (Nat.le_of_ble_eq_true rfl) (Nat.le_of_ble_eq_true rfl) rfl
  · refine zk_iconst (v := (-1)) (pc := 13) B dX11_feed_13 (by decide) ?_
    exact zk_iret (pc := 14) B dX11_feed_14 rfl rfl (Nat.le_of_ble_eq_true rfl) (Nat.le_of_ble_eq_true rfl) rfl
set_option maxHeartbeats 4000000 in
set_option maxRecDepth 100000 in
theorem m_Sys_load {X : z_X} (hX : z_ok X) {G : z_Gr} {o : Nat} (hG : g_Sys G o) (p0 : Int32) (M : z_Mem) (b : Int32 × z_Mem) (h : F_Sys_load o p0 M = some b) : z_Ct X yX11_load cX11_load 2 (some .int) ({ frames := 8, cells := 0, slots := 0, locals := 181 } : Room) [.ref o, .int p0] G M (fun o9 G9 M9 => G9 = G ∧ (o9, M9) = z_cim b) := by
  refine z_enter hX (by decide) (Nat.le_of_ble_eq_true rfl) h (fun F B hR => ?_)
  have J12 : ∀  (M : z_Mem), z_K X F 2 0 0 G z_cim b 0 0 12 [] [] M (F_Sys_load_J12 o M) := by
    intro  M
    unfold F_Sys_load_J12
    exact zk_none
  show z_K X F 2 0 0 G z_cim b 0 0 0 [(0, .ref o), (1, .int p0)] [] M (F_Sys_load o p0 M)
  unfold F_Sys_load
  refine zk_iload_n (pc := 0) B dX11_load_0 1 rfl rfl ?_
  refine zk_if_lt (tgt := 12) (pc := 1) B dX11_load_1 (by decide) (fun _ => ?_) (fun _ => ?_)
  · refine zk_sub [] rfl ?_
    exact J12 M
  · refine zk_iload_n (pc := 4) B dX11_load_4 1 rfl rfl ?_
    refine zk_aload_n (pc := 5) B dX11_load_5 0 rfl rfl ?_
    refine zk_geti (pc := 6) B kx_11 (gSys_s hG) 1 (by decide) kf_11_13 rfl dX11_load_6 ?_
    refine zk_icmp_le (tgt := 22) (pc := 9) B dX11_load_9 (by decide) (fun _ => ?_) (fun _ => ?_)
    · refine zk_aload_n (pc := 22) B dX11_load_22 0 rfl rfl ?_
      refine zk_iconst (v := 0) (pc := 23) B dX11_load_23 (by decide) ?_
      refine zk_puti (pc := 24) B kx_11 (gSys_s hG) 1 (by decide) kf_11_13 rfl rfl rfl rfl dX11_load_24 ?_
      refine zk_lm (fun M1 => ?_)
      refine zk_aload_n (pc := 27) B dX11_load_27 0 rfl rfl ?_
      refine zk_getr (pc := 28) B kx_11 (gSys_s hG) 13 (by decide) kf_11_86 rfl (gSys_f13 hG) dX11_load_28 ?_
      refine zk_iload_n (pc := 31) B dX11_load_31 1 rfl rfl ?_
      refine zk_cvm (pc := 32) (k' := 0) (n' := 0) B rfl rfl (Nat.le_of_ble_eq_true rfl) (Nat.le_of_ble_eq_true rfl) (fun b hb => zr_V B hR kV_yX8_begin km_11_124 kx_8 (gTokens_s hG) [.int p0] rfl rfl (Nat.le_of_ble_eq_true rfl) dX11_load_32 (m_Tokens_begin hX hG p0 M1 b hb) ⟨Nat.le_of_ble_eq_true rfl, Nat.le_of_ble_eq_true rfl⟩ ⟨Nat.le_of_ble_eq_true rfl, Nat.le_of_ble_eq_true rfl⟩) (fun M2 => ?_)
      refine zk_aload_n (pc := 35) B dX11_load_35 0 rfl rfl ?_
      refine zk_getr (pc := 36) B kx_11 (gSys_s hG) 14 (by decide) kf_11_95 rfl (gSys_f14 hG) dX11_load_36 ?_
      refine zk_cvm (pc := 39) (k' := 0) (n' := 0) B rfl rfl (Nat.le_of_ble_eq_true rfl) (Nat.le_of_ble_eq_true rfl) (fun b hb => zr_V B hR kV_yX7_readText km_11_127 kx_7 (gTextReader_s hG) [] rfl rfl (Nat.le_of_ble_eq_true rfl) dX11_load_39 (m_TextReader_readText hX hG M2 b hb) ⟨Nat.le_of_ble_eq_true rfl, Nat.le_of_ble_eq_true rfl⟩ ⟨Nat.le_of_ble_eq_true rfl, Nat.le_of_ble_eq_true rfl⟩) (fun M3 => ?_)
      refine zk_aload_n (pc := 42) B dX11_load_42 0 rfl rfl ?_
      refine zk_aload_n (pc := 43) B dX11_load_43 0 rfl rfl ?_
      refine zk_getr (pc := 44) B kx_11 (gSys_s hG) 13 (by decide) kf_11_86 rfl (gSys_f13 hG) dX11_load_44 ?_
      refine zk_geti (pc := 47) B kx_8 (gTokens_s hG) 1 (by decide) kf_11_130 rfl dX11_load_47 ?_
      refine zk_puti (pc := 50) B kx_11 (gSys_s hG) 2 (by decide) kf_11_17 rfl rfl rfl rfl dX11_load_50 ?_
      refine zk_lm (fun M4 => ?_)
      refine zk_aload_n (pc := 53) B dX11_load_53 0 rfl rfl ?_
      refine zk_getr (pc := 54) B kx_11 (gSys_s hG) 13 (by decide) kf_11_86 rfl (gSys_f13 hG) dX11_load_54 ?_
      refine zk_geti (pc := 57) B kx_8 (gTokens_s hG) 0 (by decide) kf_11_131 rfl dX11_load_57 ?_
      refine zk_if_eq (tgt := 74) (pc := 60) B dX11_load_60 (by decide) (fun _ => ?_) (fun _ => ?_)
      · refine zk_aload_n (pc := 74) B dX11_load_74 0 rfl rfl ?_
        refine zk_getr (pc := 75) B kx_11 (gSys_s hG) 5 (by decide) kf_11_29 rfl (gSys_f5 hG) dX11_load_75 ?_
        refine zk_aload_n (pc := 78) B dX11_load_78 0 rfl rfl ?_
        refine zk_getr (pc := 79) B kx_11 (gSys_s hG) 14 (by decide) kf_11_95 rfl (gSys_f14 hG) dX11_load_79 ?_
        refine zk_getr (pc := 82) B kx_7 (gTextReader_s hG) 0 (by decide) kf_11_134 rfl (gTextReader_f0 hG) dX11_load_82 ?_
        refine zk_cvm (pc := 85) (k' := 0) (n' := 0) B rfl rfl (Nat.le_of_ble_eq_true rfl) (Nat.le_of_ble_eq_true rfl) (fun b hb => zr_V B hR kV_yX9_copyFrom km_11_135 kx_9 (gTown_s (gSys_t5 hG)) [.ref (o + 505)] rfl rfl (Nat.le_of_ble_eq_true rfl) dX11_load_85 (m_Town_copyFrom hX (gSys_t5 hG) (gTextReader_t0 hG) M4 b hb) ⟨Nat.le_of_ble_eq_true rfl, Nat.le_of_ble_eq_true rfl⟩ ⟨Nat.le_of_ble_eq_true rfl, Nat.le_of_ble_eq_true rfl⟩) (fun M5 => ?_)
        refine zk_aload_n (pc := 88) B dX11_load_88 0 rfl rfl ?_
        refine zk_getr (pc := 89) B kx_11 (gSys_s hG) 6 (by decide) kf_11_36 rfl (gSys_f6 hG) dX11_load_89 ?_
        refine zk_aload_n (pc := 92) B dX11_load_92 0 rfl rfl ?_
        refine zk_getr (pc := 93) B kx_11 (gSys_s hG) 14 (by decide) kf_11_95 rfl (gSys_f14 hG) dX11_load_93 ?_
        refine zk_getr (pc := 96) B kx_7 (gTextReader_s hG) 1 (by decide) kf_11_139 rfl (gTextReader_f1 hG) dX11_load_96 ?_
        refine zk_cvm (pc := 99) (k' := 0) (n' := 0) B rfl rfl (Nat.le_of_ble_eq_true rfl) (Nat.le_of_ble_eq_true rfl) (fun b hb => zr_V B hR kV_yX0_copyFrom km_11_140 kx_0 (gDesk_s (gSys_t6 hG)) [.ref (o + 507)] rfl rfl (Nat.le_of_ble_eq_true rfl) dX11_load_99 (m_Desk_copyFrom hX (gSys_t6 hG) (gTextReader_t1 hG) M5 b hb) ⟨Nat.le_of_ble_eq_true rfl, Nat.le_of_ble_eq_true rfl⟩ ⟨Nat.le_of_ble_eq_true rfl, Nat.le_of_ble_eq_true rfl⟩) (fun M6 => ?_)
        refine zk_aload_n (pc := 102) B dX11_load_102 0 rfl rfl ?_
        refine zk_getr (pc := 103) B kx_11 (gSys_s hG) 7 (by decide) kf_11_43 rfl (gSys_f7 hG) dX11_load_103 ?_
        refine zk_cvm (pc := 106) (k' := 0) (n' := 0) B rfl rfl (Nat.le_of_ble_eq_true rfl) (Nat.le_of_ble_eq_true rfl) (fun b hb => zr_V B hR kV_yX1_clear km_11_143 kx_1 (gHistory_s hG) [] rfl rfl (Nat.le_of_ble_eq_true rfl) dX11_load_106 (m_History_clear hX hG M6 b hb) ⟨Nat.le_of_ble_eq_true rfl, Nat.le_of_ble_eq_true rfl⟩ ⟨Nat.le_of_ble_eq_true rfl, Nat.le_of_ble_eq_true rfl⟩) (fun M7 => ?_)
        refine zk_aload_n (pc := 109) B dX11_load_109 0 rfl rfl ?_
        refine zk_iconst (v := 0) (pc := 110) B dX11_load_110 (by decide) ?_
        refine zk_puti (pc := 111) B kx_11 (gSys_s hG) 9 (by decide) kf_11_50 rfl rfl rfl rfl dX11_load_111 ?_
        refine zk_lm (fun M8 => ?_)
        refine zk_aload_n (pc := 114) B dX11_load_114 0 rfl rfl ?_
        refine zk_getr (pc := 115) B kx_11 (gSys_s hG) 6 (by decide) kf_11_36 rfl (gSys_f6 hG) dX11_load_115 ?_
        refine zk_geti (pc := 118) B kx_0 (gDesk_s (gSys_t6 hG)) 3 (by decide) kf_11_144 rfl dX11_load_118 ?_
        exact zk_iret (pc := 121) B dX11_load_121 rfl rfl (Nat.le_of_ble_eq_true rfl) (Nat.le_of_ble_eq_true rfl) rfl
      · refine zk_bipush (v := (-10)) (pc := 63) B dX11_load_63 (by decide) ?_
        refine zk_aload_n (pc := 65) B dX11_load_65 0 rfl rfl ?_
        refine zk_getr (pc := 66) B kx_11 (gSys_s hG) 13 (by decide) kf_11_86 rfl (gSys_f13 hG) dX11_load_66 ?_
        refine zk_geti (pc := 69) B kx_8 (gTokens_s hG) 0 (by decide) kf_11_131 rfl dX11_load_69 ?_
        refine zk_isub (pc := 72) B dX11_load_72 ?_
        exact zk_iret (pc := 73) B dX11_load_73 rfl rfl (Nat.le_of_ble_eq_true rfl) (Nat.le_of_ble_eq_true rfl) rfl
    · refine zk_sub [] rfl ?_
      exact J12 M
set_option maxHeartbeats 4000000 in
set_option maxRecDepth 100000 in
theorem m_Sys_errorPosition {X : z_X} (hX : z_ok X) {G : z_Gr} {o : Nat} (hG : g_Sys G o) (M : z_Mem) (b : Int32) (h : F_Sys_errorPosition o M = some b) : z_Ct X yX11_errorPosition cX11_errorPosition 1 (some .int) ({ frames := 0, cells := 0, slots := 0, locals := 0 } : Room) [.ref o] G M (fun o9 G9 M9 => G9 = G ∧ (o9, M9) = (z_ci M) b) := by
  refine z_enter hX (by decide) (Nat.le_of_ble_eq_true rfl) h (fun F B hR => ?_)
  show z_K X F 1 0 0 G (z_ci M) b 0 0 0 [(0, .ref o)] [] M (F_Sys_errorPosition o M)
  unfold F_Sys_errorPosition
  refine zk_aload_n (pc := 0) B dX11_errorPosition_0 0 rfl rfl ?_
  refine zk_geti (pc := 1) B kx_11 (gSys_s hG) 2 (by decide) kf_11_17 rfl dX11_errorPosition_1 ?_
  exact zk_iret (pc := 4) B dX11_errorPosition_4 rfl rfl (Nat.le_of_ble_eq_true rfl) (Nat.le_of_ble_eq_true rfl) rfl
set_option maxHeartbeats 4000000 in
set_option maxRecDepth 100000 in
theorem m_Sys_size {X : z_X} (hX : z_ok X) {G : z_Gr} {o : Nat} (hG : g_Sys G o) (p0 : Int32) (M : z_Mem) (b : Int32) (h : F_Sys_size o p0 M = some b) : z_Ct X yX11_size cX11_size 2 (some .int) ({ frames := 1, cells := 0, slots := 0, locals := 23 } : Room) [.ref o, .int p0] G M (fun o9 G9 M9 => G9 = G ∧ (o9, M9) = (z_ci M) b) := by
  refine z_enter hX (by decide) (Nat.le_of_ble_eq_true rfl) h (fun F B hR => ?_)
  show z_K X F 2 0 0 G (z_ci M) b 0 0 0 [(0, .ref o), (1, .int p0)] [] M (F_Sys_size o p0 M)
  unfold F_Sys_size
  refine zk_iload_n (pc := 0) B dX11_size_0 1 rfl rfl ?_
  refine zk_if (fun hs => zk_tin (v := 0) (tgt := 52) (pc := 1) B dX11_size_1 hs (by decide) (by decide) rfl (by decide) ?_) (fun hn1_0 => ?_)
  · refine zk_aload_n (pc := 52) B dX11_size_52 0 rfl rfl ?_
    refine zk_getr (pc := 53) B kx_11 (gSys_s hG) 5 (by decide) kf_11_29 rfl (gSys_f5 hG) dX11_size_53 ?_
    refine zk_geti (pc := 56) B kx_9 (gTown_s (gSys_t5 hG)) 0 (by decide) kf_11_181 rfl dX11_size_56 ?_
    exact zk_iret (pc := 59) B dX11_size_59 rfl rfl (Nat.le_of_ble_eq_true rfl) (Nat.le_of_ble_eq_true rfl) rfl
  · refine zk_if (fun hs => zk_tin (v := 1) (tgt := 60) (pc := 1) B dX11_size_1 hs (by decide) (by decide) rfl (by decide) ?_) (fun hn1_1 => ?_)
    · refine zk_aload_n (pc := 60) B dX11_size_60 0 rfl rfl ?_
      refine zk_getr (pc := 61) B kx_11 (gSys_s hG) 5 (by decide) kf_11_29 rfl (gSys_f5 hG) dX11_size_61 ?_
      refine zk_geti (pc := 64) B kx_9 (gTown_s (gSys_t5 hG)) 1 (by decide) kf_11_184 rfl dX11_size_64 ?_
      exact zk_iret (pc := 67) B dX11_size_67 rfl rfl (Nat.le_of_ble_eq_true rfl) (Nat.le_of_ble_eq_true rfl) rfl
    · refine zk_if (fun hs => zk_tin (v := 2) (tgt := 68) (pc := 1) B dX11_size_1 hs (by decide) (by decide) rfl (by decide) ?_) (fun hn1_2 => ?_)
      · refine zk_aload_n (pc := 68) B dX11_size_68 0 rfl rfl ?_
        refine zk_getr (pc := 69) B kx_11 (gSys_s hG) 6 (by decide) kf_11_36 rfl (gSys_f6 hG) dX11_size_69 ?_
        refine zk_geti (pc := 72) B kx_0 (gDesk_s (gSys_t6 hG)) 3 (by decide) kf_11_144 rfl dX11_size_72 ?_
        exact zk_iret (pc := 75) B dX11_size_75 rfl rfl (Nat.le_of_ble_eq_true rfl) (Nat.le_of_ble_eq_true rfl) rfl
      · refine zk_if (fun hs => zk_tin (v := 3) (tgt := 76) (pc := 1) B dX11_size_1 hs (by decide) (by decide) rfl (by decide) ?_) (fun hn1_3 => ?_)
        · refine zk_aload_n (pc := 76) B dX11_size_76 0 rfl rfl ?_
          refine zk_getr (pc := 77) B kx_11 (gSys_s hG) 6 (by decide) kf_11_36 rfl (gSys_f6 hG) dX11_size_77 ?_
          refine zk_geti (pc := 80) B kx_0 (gDesk_s (gSys_t6 hG)) 4 (by decide) kf_11_187 rfl dX11_size_80 ?_
          exact zk_iret (pc := 83) B dX11_size_83 rfl rfl (Nat.le_of_ble_eq_true rfl) (Nat.le_of_ble_eq_true rfl) rfl
        · refine zk_if (fun hs => zk_tin (v := 4) (tgt := 84) (pc := 1) B dX11_size_1 hs (by decide) (by decide) rfl (by decide) ?_) (fun hn1_4 => ?_)
          · refine zk_aload_n (pc := 84) B dX11_size_84 0 rfl rfl ?_
            refine zk_getr (pc := 85) B kx_11 (gSys_s hG) 6 (by decide) kf_11_36 rfl (gSys_f6 hG) dX11_size_85 ?_
            refine zk_geti (pc := 88) B kx_0 (gDesk_s (gSys_t6 hG)) 0 (by decide) kf_11_190 rfl dX11_size_88 ?_
            exact zk_iret (pc := 91) B dX11_size_91 rfl rfl (Nat.le_of_ble_eq_true rfl) (Nat.le_of_ble_eq_true rfl) rfl
          · refine zk_if (fun hs => zk_tin (v := 5) (tgt := 92) (pc := 1) B dX11_size_1 hs (by decide) (by decide) rfl (by decide) ?_) (fun hn1_5 => ?_)
            · refine zk_aload_n (pc := 92) B dX11_size_92 0 rfl rfl ?_
              refine zk_getr (pc := 93) B kx_11 (gSys_s hG) 6 (by decide) kf_11_36 rfl (gSys_f6 hG) dX11_size_93 ?_
              refine zk_iconst (v := 0) (pc := 96) B dX11_size_96 (by decide) ?_
              refine zk_cpi (pc := 97) (k' := 0) (n' := 0) B rfl rfl (Nat.le_of_ble_eq_true rfl) (Nat.le_of_ble_eq_true rfl) (fun b hb => zr_V B hR kV_yX0_countInState km_11_193 kx_0 (gDesk_s (gSys_t6 hG)) [.int 0] rfl rfl (Nat.le_of_ble_eq_true rfl) dX11_size_97 (m_Desk_countInState hX (gSys_t6 hG) 0 M b hb) ⟨Nat.le_of_ble_eq_true rfl, Nat.le_of_ble_eq_true rfl⟩ ⟨Nat.le_of_ble_eq_true rfl, Nat.le_of_ble_eq_true rfl⟩) (fun x2 _ => ?_)
              exact zk_iret (pc := 100) B dX11_size_100 rfl rfl (Nat.le_of_ble_eq_true rfl) (Nat.le_of_ble_eq_true rfl) rfl
            · refine zk_if (fun hs => zk_tin (v := 6) (tgt := 101) (pc := 1) B dX11_size_1 hs (by decide) (by decide) rfl (by decide) ?_) (fun hn1_6 => ?_)
              · refine zk_aload_n (pc := 101) B dX11_size_101 0 rfl rfl ?_
                refine zk_getr (pc := 102) B kx_11 (gSys_s hG) 6 (by decide) kf_11_36 rfl (gSys_f6 hG) dX11_size_102 ?_
                refine zk_cpi (pc := 105) (k' := 0) (n' := 0) B rfl rfl (Nat.le_of_ble_eq_true rfl) (Nat.le_of_ble_eq_true rfl) (fun b hb => zr_V B hR kV_yX0_stopsInAllRoutes km_11_196 kx_0 (gDesk_s (gSys_t6 hG)) [] rfl rfl (Nat.le_of_ble_eq_true rfl) dX11_size_105 (m_Desk_stopsInAllRoutes hX (gSys_t6 hG) M b hb) ⟨Nat.le_of_ble_eq_true rfl, Nat.le_of_ble_eq_true rfl⟩ ⟨Nat.le_of_ble_eq_true rfl, Nat.le_of_ble_eq_true rfl⟩) (fun x1 _ => ?_)
                exact zk_iret (pc := 108) B dX11_size_108 rfl rfl (Nat.le_of_ble_eq_true rfl) (Nat.le_of_ble_eq_true rfl) rfl
              · refine zk_if (fun hs => zk_tin (v := 7) (tgt := 109) (pc := 1) B dX11_size_1 hs (by decide) (by decide) rfl (by decide) ?_) (fun hn1_7 => ?_)
                · refine zk_aload_n (pc := 109) B dX11_size_109 0 rfl rfl ?_
                  refine zk_getr (pc := 110) B kx_11 (gSys_s hG) 6 (by decide) kf_11_36 rfl (gSys_f6 hG) dX11_size_110 ?_
                  refine zk_geti (pc := 113) B kx_0 (gDesk_s (gSys_t6 hG)) 1 (by decide) kf_11_199 rfl dX11_size_113 ?_
                  exact zk_iret (pc := 116) B dX11_size_116 rfl rfl (Nat.le_of_ble_eq_true rfl) (Nat.le_of_ble_eq_true rfl) rfl
                · refine zk_if (fun hs => zk_tin (v := 8) (tgt := 117) (pc := 1) B dX11_size_1 hs (by decide) (by decide) rfl (by decide) ?_) (fun hn1_8 => ?_)
                  · refine zk_aload_n (pc := 117) B dX11_size_117 0 rfl rfl ?_
                    refine zk_getr (pc := 118) B kx_11 (gSys_s hG) 6 (by decide) kf_11_36 rfl (gSys_f6 hG) dX11_size_118 ?_
                    refine zk_geti (pc := 121) B kx_0 (gDesk_s (gSys_t6 hG)) 2 (by decide) kf_11_202 rfl dX11_size_121 ?_
                    exact zk_iret (pc := 124) B dX11_size_124 rfl rfl (Nat.le_of_ble_eq_true rfl) (Nat.le_of_ble_eq_true rfl) rfl
                  · refine zk_tout (pc := 1)  (tgt := 125) B dX11_size_1 (by have q0 := z_ne hn1_0 (z := 0) (by decide); have q1 := z_ne hn1_1 (z := 1) (by decide); have q2 := z_ne hn1_2 (z := 2) (by decide); have q3 := z_ne hn1_3 (z := 3) (by decide); have q4 := z_ne hn1_4 (z := 4) (by decide); have q5 := z_ne hn1_5 (z := 5) (by decide); have q6 := z_ne hn1_6 (z := 6) (by decide); have q7 := z_ne hn1_7 (z := 7) (by decide); have q8 := z_ne hn1_8 (z := 8) (by decide); omega) (by decide) ?_
                    exact zk_none
set_option maxHeartbeats 4000000 in
set_option maxRecDepth 100000 in
theorem m_Sys_checkRule {X : z_X} (hX : z_ok X) {G : z_Gr} (p0 : Int32) (M : z_Mem) (b : Unit) (h : F_Sys_checkRule p0 M = some b) : z_Ct X yX11_checkRule cX11_checkRule 1 none ({ frames := 0, cells := 0, slots := 0, locals := 0 } : Room) [.int p0] G M (fun o9 G9 M9 => G9 = G ∧ (o9, M9) = (z_cu M) b) := by
  refine z_enter hX (by decide) (Nat.le_of_ble_eq_true rfl) h (fun F B hR => ?_)
  have J10 : z_K X F 1 0 0 G (z_cu M) b 0 0 10 [] [] M (F_Sys_checkRule_J10 M) := by
    unfold F_Sys_checkRule_J10
    exact zk_none
  show z_K X F 1 0 0 G (z_cu M) b 0 0 0 [(0, .int p0)] [] M (F_Sys_checkRule p0 M)
  unfold F_Sys_checkRule
  refine zk_iload_n (pc := 0) B dX11_checkRule_0 0 rfl rfl ?_
  refine zk_if_lt (tgt := 10) (pc := 1) B dX11_checkRule_1 (by decide) (fun _ => ?_) (fun _ => ?_)
  · refine zk_sub [] rfl ?_
    exact J10
  · refine zk_iload_n (pc := 4) B dX11_checkRule_4 0 rfl rfl ?_
    refine zk_bipush (v := 10) (pc := 5) B dX11_checkRule_5 (by decide) ?_
    refine zk_icmp_lt (tgt := 21) (pc := 7) B dX11_checkRule_7 (by decide) (fun _ => ?_) (fun _ => ?_)
    · exact zk_vret (pc := 21) B dX11_checkRule_21 rfl (Nat.le_of_ble_eq_true rfl) (Nat.le_of_ble_eq_true rfl) rfl
    · refine zk_sub [] rfl ?_
      exact J10
set_option maxHeartbeats 4000000 in
set_option maxRecDepth 100000 in
theorem m_Sys_rule {X : z_X} (hX : z_ok X) {G : z_Gr} {o : Nat} (hG : g_Sys G o) (p0 : Int32) (M : z_Mem) (b : Int32) (h : F_Sys_rule o p0 M = some b) : z_Ct X yX11_rule cX11_rule 2 (some .int) ({ frames := 1, cells := 0, slots := 0, locals := 21 } : Room) [.ref o, .int p0] G M (fun o9 G9 M9 => G9 = G ∧ (o9, M9) = (z_ci M) b) := by
  refine z_enter hX (by decide) (Nat.le_of_ble_eq_true rfl) h (fun F B hR => ?_)
  show z_K X F 2 0 0 G (z_ci M) b 0 0 0 [(0, .ref o), (1, .int p0)] [] M (F_Sys_rule o p0 M)
  unfold F_Sys_rule
  refine zk_iload_n (pc := 0) B dX11_rule_0 1 rfl rfl ?_
  refine zk_cup (pc := 1) (k' := 0) (n' := 0) B rfl rfl (Nat.le_of_ble_eq_true rfl) (Nat.le_of_ble_eq_true rfl) (fun b hb => zr_S B hR kS_yX11_checkRule km_11_210 [.int p0] rfl rfl (Nat.le_of_ble_eq_true rfl) dX11_rule_1 (m_Sys_checkRule hX p0 M b hb) ⟨Nat.le_of_ble_eq_true rfl, Nat.le_of_ble_eq_true rfl⟩ ⟨Nat.le_of_ble_eq_true rfl, Nat.le_of_ble_eq_true rfl⟩) ?_
  refine zk_aload_n (pc := 4) B dX11_rule_4 0 rfl rfl ?_
  refine zk_getr (pc := 5) B kx_11 (gSys_s hG) 6 (by decide) kf_11_36 rfl (gSys_f6 hG) dX11_rule_5 ?_
  refine zk_iload_n (pc := 8) B dX11_rule_8 1 rfl rfl ?_
  refine zk_cpi (pc := 9) (k' := 0) (n' := 0) B rfl rfl (Nat.le_of_ble_eq_true rfl) (Nat.le_of_ble_eq_true rfl) (fun b hb => zr_V B hR kV_yX0_ruleValue km_11_213 kx_0 (gDesk_s (gSys_t6 hG)) [.int p0] rfl rfl (Nat.le_of_ble_eq_true rfl) dX11_rule_9 (m_Desk_ruleValue hX (gSys_t6 hG) p0 M b hb) ⟨Nat.le_of_ble_eq_true rfl, Nat.le_of_ble_eq_true rfl⟩ ⟨Nat.le_of_ble_eq_true rfl, Nat.le_of_ble_eq_true rfl⟩) (fun x1 _ => ?_)
  exact zk_iret (pc := 12) B dX11_rule_12 rfl rfl (Nat.le_of_ble_eq_true rfl) (Nat.le_of_ble_eq_true rfl) rfl
set_option maxHeartbeats 4000000 in
set_option maxRecDepth 100000 in
theorem m_Sys_existingTaxi {X : z_X} (hX : z_ok X) {G : z_Gr} {o : Nat} (hG : g_Sys G o) (p0 : Int32) (M : z_Mem) (b : Nat) (h : F_Sys_existingTaxi o p0 M = some b) : z_Ct X yX11_existingTaxi cX11_existingTaxi 2 (some (.object "SharedTaxis$Taxi")) ({ frames := 1, cells := 0, slots := 0, locals := 21 } : Room) [.ref o, .int p0] G M (fun o9 G9 M9 => G9 = G ∧ (o9, M9) = (z_cr M) b) := by
  refine z_enter hX (by decide) (Nat.le_of_ble_eq_true rfl) h (fun F B hR => ?_)
  show z_K X F 2 0 0 G (z_cr M) b 0 0 0 [(0, .ref o), (1, .int p0)] [] M (F_Sys_existingTaxi o p0 M)
  unfold F_Sys_existingTaxi
  refine zk_aload_n (pc := 0) B dX11_existingTaxi_0 0 rfl rfl ?_
  refine zk_getr (pc := 1) B kx_11 (gSys_s hG) 6 (by decide) kf_11_36 rfl (gSys_f6 hG) dX11_existingTaxi_1 ?_
  refine zk_iload_n (pc := 4) B dX11_existingTaxi_4 1 rfl rfl ?_
  refine zk_cpi (pc := 5) (k' := 0) (n' := 0) B rfl rfl (Nat.le_of_ble_eq_true rfl) (Nat.le_of_ble_eq_true rfl) (fun b hb => zr_V B hR kV_yX0_hasTaxi km_11_363 kx_0 (gDesk_s (gSys_t6 hG)) [.int p0] rfl rfl (Nat.le_of_ble_eq_true rfl) dX11_existingTaxi_5 (m_Desk_hasTaxi hX (gSys_t6 hG) p0 M b hb) ⟨Nat.le_of_ble_eq_true rfl, Nat.le_of_ble_eq_true rfl⟩ ⟨Nat.le_of_ble_eq_true rfl, Nat.le_of_ble_eq_true rfl⟩) (fun x1 _ => ?_)
  refine zk_if_ne (tgt := 22) (pc := 8) B dX11_existingTaxi_8 (by decide) (fun _ => ?_) (fun _ => ?_)
  · refine zk_aload_n (pc := 22) B dX11_existingTaxi_22 0 rfl rfl ?_
    refine zk_getr (pc := 23) B kx_11 (gSys_s hG) 6 (by decide) kf_11_36 rfl (gSys_f6 hG) dX11_existingTaxi_23 ?_
    refine zk_getr (pc := 26) B kx_0 (gDesk_s (gSys_t6 hG)) 6 (by decide) kf_11_366 rfl (gDesk_f6 (gSys_t6 hG)) dX11_existingTaxi_26 ?_
    refine zk_iload_n (pc := 29) B dX11_existingTaxi_29 1 rfl rfl ?_
    refine zk_aald (pc := 30) B (gDesk_t6 (gSys_t6 hG)) (by decide) (by decide) (fun h3 => gDesk_e6 (gSys_t6 hG) _ (z_lt h3)) dX11_existingTaxi_30 (fun h3 => zk_lr (fun t2 h3e => ?_))
    have ht2 : g_Taxi G t2 := by rw [h3e]; exact gDesk_k6 (gSys_t6 hG) _ (z_lt h3)
    exact zk_aret (pc := 31) B dX11_existingTaxi_31 rfl (Nat.le_of_ble_eq_true rfl) (Nat.le_of_ble_eq_true rfl) rfl
  · exact zk_none
set_option maxHeartbeats 4000000 in
set_option maxRecDepth 100000 in
theorem m_Sys_account {X : z_X} (hX : z_ok X) {G : z_Gr} {o : Nat} (hG : g_Sys G o) (p0 : Int32) (p1 : Int32) (M : z_Mem) (b : Int32) (h : F_Sys_account o p0 p1 M = some b) : z_Ct X yX11_account cX11_account 4 (some .int) ({ frames := 2, cells := 0, slots := 0, locals := 42 } : Room) [.ref o, .int p0, .int p1] G M (fun o9 G9 M9 => G9 = G ∧ (o9, M9) = (z_ci M) b) := by
  refine z_enter hX (by decide) (Nat.le_of_ble_eq_true rfl) h (fun F B hR => ?_)
  show z_K X F 4 0 0 G (z_ci M) b 0 0 0 [(0, .ref o), (1, .int p0), (2, .int p1)] [] M (F_Sys_account o p0 p1 M)
  unfold F_Sys_account
  refine zk_aload_n (pc := 0) B dX11_account_0 0 rfl rfl ?_
  refine zk_iload_n (pc := 1) B dX11_account_1 1 rfl rfl ?_
  refine zk_cpr (pc := 2) (k' := 0) (n' := 0) B rfl rfl (Nat.le_of_ble_eq_true rfl) (Nat.le_of_ble_eq_true rfl) (fun b hb => zr_V B hR kV_yX11_existingTaxi km_11_152 kx_11 (gSys_s hG) [.int p0] rfl rfl (Nat.le_of_ble_eq_true rfl) dX11_account_2 (m_Sys_existingTaxi hX hG p0 M b hb) ⟨Nat.le_of_ble_eq_true rfl, Nat.le_of_ble_eq_true rfl⟩ ⟨Nat.le_of_ble_eq_true rfl, Nat.le_of_ble_eq_true rfl⟩) (fun t1 h2 => ?_)
  have ht1 : g_Taxi G t1 := fr_Sys_existingTaxi hG h2
  refine zk_astore_n (loc' := [(3, .ref t1), (0, .ref o), (1, .int p0), (2, .int p1)]) (pc := 5) B dX11_account_5 rfl (by decide) rfl ?_
  refine zk_iload_n (pc := 6) B dX11_account_6 3 rfl rfl ?_
  refine zk_if (fun hs => zk_tin (v := 0) (tgt := 44) (pc := 7) B dX11_account_7 hs (by decide) (by decide) rfl (by decide) ?_) (fun hn7_0 => ?_)
  · refine zk_aload_n (pc := 44) B dX11_account_44 0 rfl rfl ?_
    refine zk_geti (pc := 45) B kx_6 (gTaxi_s ht1) 11 (by decide) kf_11_252 rfl dX11_account_45 ?_
    exact zk_iret (pc := 48) B dX11_account_48 rfl rfl (Nat.le_of_ble_eq_true rfl) (Nat.le_of_ble_eq_true rfl) rfl
  · refine zk_if (fun hs => zk_tin (v := 1) (tgt := 49) (pc := 7) B dX11_account_7 hs (by decide) (by decide) rfl (by decide) ?_) (fun hn7_1 => ?_)
    · refine zk_aload_n (pc := 49) B dX11_account_49 0 rfl rfl ?_
      refine zk_geti (pc := 50) B kx_6 (gTaxi_s ht1) 12 (by decide) kf_11_255 rfl dX11_account_50 ?_
      exact zk_iret (pc := 53) B dX11_account_53 rfl rfl (Nat.le_of_ble_eq_true rfl) (Nat.le_of_ble_eq_true rfl) rfl
    · refine zk_if (fun hs => zk_tin (v := 2) (tgt := 54) (pc := 7) B dX11_account_7 hs (by decide) (by decide) rfl (by decide) ?_) (fun hn7_2 => ?_)
      · refine zk_aload_n (pc := 54) B dX11_account_54 0 rfl rfl ?_
        refine zk_geti (pc := 55) B kx_6 (gTaxi_s ht1) 13 (by decide) kf_11_258 rfl dX11_account_55 ?_
        exact zk_iret (pc := 58) B dX11_account_58 rfl rfl (Nat.le_of_ble_eq_true rfl) (Nat.le_of_ble_eq_true rfl) rfl
      · refine zk_if (fun hs => zk_tin (v := 3) (tgt := 59) (pc := 7) B dX11_account_7 hs (by decide) (by decide) rfl (by decide) ?_) (fun hn7_3 => ?_)
        · refine zk_aload_n (pc := 59) B dX11_account_59 0 rfl rfl ?_
          refine zk_geti (pc := 60) B kx_6 (gTaxi_s ht1) 14 (by decide) kf_11_261 rfl dX11_account_60 ?_
          exact zk_iret (pc := 63) B dX11_account_63 rfl rfl (Nat.le_of_ble_eq_true rfl) (Nat.le_of_ble_eq_true rfl) rfl
        · refine zk_if (fun hs => zk_tin (v := 4) (tgt := 64) (pc := 7) B dX11_account_7 hs (by decide) (by decide) rfl (by decide) ?_) (fun hn7_4 => ?_)
          · refine zk_aload_n (pc := 64) B dX11_account_64 0 rfl rfl ?_
            refine zk_geti (pc := 65) B kx_6 (gTaxi_s ht1) 15 (by decide) kf_11_264 rfl dX11_account_65 ?_
            exact zk_iret (pc := 68) B dX11_account_68 rfl rfl (Nat.le_of_ble_eq_true rfl) (Nat.le_of_ble_eq_true rfl) rfl
          · refine zk_if (fun hs => zk_tin (v := 5) (tgt := 69) (pc := 7) B dX11_account_7 hs (by decide) (by decide) rfl (by decide) ?_) (fun hn7_5 => ?_)
            · refine zk_aload_n (pc := 69) B dX11_account_69 0 rfl rfl ?_
              refine zk_geti (pc := 70) B kx_6 (gTaxi_s ht1) 16 (by decide) kf_11_267 rfl dX11_account_70 ?_
              exact zk_iret (pc := 73) B dX11_account_73 rfl rfl (Nat.le_of_ble_eq_true rfl) (Nat.le_of_ble_eq_true rfl) rfl
            · refine zk_tout (pc := 7)  (tgt := 74) B dX11_account_7 (by have q0 := z_ne hn7_0 (z := 0) (by decide); have q1 := z_ne hn7_1 (z := 1) (by decide); have q2 := z_ne hn7_2 (z := 2) (by decide); have q3 := z_ne hn7_3 (z := 3) (by decide); have q4 := z_ne hn7_4 (z := 4) (by decide); have q5 := z_ne hn7_5 (z := 5) (by decide); omega) (by decide) ?_
              exact zk_none
set_option maxHeartbeats 4000000 in
set_option maxRecDepth 100000 in
theorem m_Sys_existingRide {X : z_X} (hX : z_ok X) {G : z_Gr} {o : Nat} (hG : g_Sys G o) (p0 : Int32) (M : z_Mem) (b : Nat) (h : F_Sys_existingRide o p0 M = some b) : z_Ct X yX11_existingRide cX11_existingRide 2 (some (.object "SharedTaxis$Ride")) ({ frames := 0, cells := 0, slots := 0, locals := 0 } : Room) [.ref o, .int p0] G M (fun o9 G9 M9 => G9 = G ∧ (o9, M9) = (z_cr M) b) := by
  refine z_enter hX (by decide) (Nat.le_of_ble_eq_true rfl) h (fun F B hR => ?_)
  have J21 : z_K X F 2 0 0 G (z_cr M) b 0 0 21 [] [] M (F_Sys_existingRide_J21 o M) := by
    unfold F_Sys_existingRide_J21
    exact zk_none
  show z_K X F 2 0 0 G (z_cr M) b 0 0 0 [(0, .ref o), (1, .int p0)] [] M (F_Sys_existingRide o p0 M)
  unfold F_Sys_existingRide
  refine zk_iload_n (pc := 0) B dX11_existingRide_0 1 rfl rfl ?_
  refine zk_if_lt (tgt := 21) (pc := 1) B dX11_existingRide_1 (by decide) (fun _ => ?_) (fun _ => ?_)
  · refine zk_sub [] rfl ?_
    exact J21
  · refine zk_iload_n (pc := 4) B dX11_existingRide_4 1 rfl rfl ?_
    refine zk_aload_n (pc := 5) B dX11_existingRide_5 0 rfl rfl ?_
    refine zk_getr (pc := 6) B kx_11 (gSys_s hG) 6 (by decide) kf_11_36 rfl (gSys_f6 hG) dX11_existingRide_6 ?_
    refine zk_geti (pc := 9) B kx_0 (gDesk_s (gSys_t6 hG)) 4 (by decide) kf_11_187 rfl dX11_existingRide_9 ?_
    refine zk_icmp_ge (tgt := 21) (pc := 12) B dX11_existingRide_12 (by decide) (fun _ => ?_) (fun _ => ?_)
    · refine zk_sub [] rfl ?_
      exact J21
    · refine zk_iload_n (pc := 15) B dX11_existingRide_15 1 rfl rfl ?_
      refine zk_bipush (v := 24) (pc := 16) B dX11_existingRide_16 (by decide) ?_
      refine zk_icmp_lt (tgt := 32) (pc := 18) B dX11_existingRide_18 (by decide) (fun _ => ?_) (fun _ => ?_)
      · refine zk_aload_n (pc := 32) B dX11_existingRide_32 0 rfl rfl ?_
        refine zk_getr (pc := 33) B kx_11 (gSys_s hG) 6 (by decide) kf_11_36 rfl (gSys_f6 hG) dX11_existingRide_33 ?_
        refine zk_getr (pc := 36) B kx_0 (gDesk_s (gSys_t6 hG)) 7 (by decide) kf_11_395 rfl (gDesk_f7 (gSys_t6 hG)) dX11_existingRide_36 ?_
        refine zk_iload_n (pc := 39) B dX11_existingRide_39 1 rfl rfl ?_
        refine zk_aald (pc := 40) B (gDesk_t7 (gSys_t6 hG)) (by decide) (by decide) (fun h2 => gDesk_e7 (gSys_t6 hG) _ (z_lt h2)) dX11_existingRide_40 (fun h2 => zk_lr (fun t1 h2e => ?_))
        have ht1 : g_Ride G t1 := by rw [h2e]; exact gDesk_k7 (gSys_t6 hG) _ (z_lt h2)
        exact zk_aret (pc := 41) B dX11_existingRide_41 rfl (Nat.le_of_ble_eq_true rfl) (Nat.le_of_ble_eq_true rfl) rfl
      · refine zk_sub [] rfl ?_
        exact J21
