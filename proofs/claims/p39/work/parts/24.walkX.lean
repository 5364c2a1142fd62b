/-! ===== walks of the class (by program) ===== -/
set_option maxHeartbeats 4000000 in
set_option maxRecDepth 100000 in
theorem m_Tokens_next {X : z_X} (hX : z_ok X) {G : z_Gr} {o : Nat} (hG : g_Sys G o) (M : z_Mem) (b : z_Mem) (h : F_Tokens_next o M = some b) : z_Ct X yX8_next cX8_next 2 none ({ frames := 0, cells := 0, slots := 0, locals := 0 } : Room) [.ref (o + 499)] G M (fun o9 G9 M9 => G9 = G ∧ (o9, M9) = z_cvm b) := by
  refine z_enter hX (by decide) (Nat.le_of_ble_eq_true rfl) h (fun F B hR => ?_)
  have J85 : ∀ (s0 : Int32) (M : z_Mem), z_K X F 2 0 0 G z_cvm b 0 0 85 [] [.int s0, .ref (o + 499)] M (F_Tokens_next_J85 o s0 M) := by
    intro s0 M
    unfold F_Tokens_next_J85
    refine zk_puti (pc := 85) B kx_8 (gTokens_s hG) 10 (by decide) kf_8_91 rfl rfl rfl rfl dX8_next_85 ?_
    refine zk_lm (fun M3 => ?_)
    exact zk_vret (pc := 88) B dX8_next_88 rfl (Nat.le_of_ble_eq_true rfl) (Nat.le_of_ble_eq_true rfl) rfl
  have J64 : ∀ (v1 : Int32) (s0 : Int32) (M : z_Mem), z_K X F 2 0 0 G z_cvm b 0 0 64 [(0, .ref (o + 499)), (1, .int v1)] [.int s0, .ref (o + 499)] M (F_Tokens_next_J64 o v1 s0 M) := by
    intro v1 s0 M
    unfold F_Tokens_next_J64
    refine zk_puti (pc := 64) B kx_8 (gTokens_s hG) 9 (by decide) kf_8_88 rfl rfl rfl rfl dX8_next_64 ?_
    refine zk_lm (fun M2 => ?_)
    refine zk_aload_n (pc := 67) B dX8_next_67 0 rfl rfl ?_
    refine zk_iload_n (pc := 68) B dX8_next_68 1 rfl rfl ?_
    refine zk_if_eq (tgt := 84) (pc := 69) B dX8_next_69 (by decide) (fun _ => ?_) (fun _ => ?_)
    · refine zk_iconst (v := 0) (pc := 84) B dX8_next_84 (by decide) ?_
      refine zk_sub [] rfl ?_
      exact J85 0 M2
    · refine zk_aload_n (pc := 72) B dX8_next_72 0 rfl rfl ?_
      refine zk_getr (pc := 73) B kx_8 (gTokens_s hG) 6 (by decide) kf_8_25 rfl (gTokens_f6 hG) dX8_next_73 ?_
      refine zk_aload_n (pc := 76) B dX8_next_76 0 rfl rfl ?_
      refine zk_geti (pc := 77) B kx_8 (gTokens_s hG) 8 (by decide) kf_8_56 rfl dX8_next_77 ?_
      refine zk_iald (pc := 80) B (gTokens_t6 hG) dX8_next_80 ?_
      refine zk_goto (tgt := 85) (pc := 81) B dX8_next_81 (by decide) ?_
      refine zk_sub [] rfl ?_
      exact J85 (M2.1 (o + 503) (M2.1 (o + 499) 8).toNatClampNeg) M2
  have J45 : ∀ (s0 : Int32) (M : z_Mem), z_K X F 2 0 0 G z_cvm b 0 0 45 [(0, .ref (o + 499))] [.int s0] M (F_Tokens_next_J45 o s0 M) := by
    intro s0 M
    unfold F_Tokens_next_J45
    refine zk_istore_n (loc' := [(1, .int s0), (0, .ref (o + 499))]) (pc := 45) B dX8_next_45 rfl (by decide) rfl ?_
    refine zk_aload_n (pc := 46) B dX8_next_46 1 rfl rfl ?_
    refine zk_iload_n (pc := 47) B dX8_next_47 0 rfl rfl ?_
    refine zk_if_eq (tgt := 63) (pc := 48) B dX8_next_48 (by decide) (fun _ => ?_) (fun _ => ?_)
    · refine zk_iconst (v := 4) (pc := 63) B dX8_next_63 (by decide) ?_
      refine zk_sub [1, 0] rfl ?_
      exact J64 s0 4 M
    · refine zk_aload_n (pc := 51) B dX8_next_51 1 rfl rfl ?_
      refine zk_getr (pc := 52) B kx_8 (gTokens_s hG) 3 (by decide) kf_8_15 rfl (gTokens_f3 hG) dX8_next_52 ?_
      refine zk_aload_n (pc := 55) B dX8_next_55 1 rfl rfl ?_
      refine zk_geti (pc := 56) B kx_8 (gTokens_s hG) 8 (by decide) kf_8_56 rfl dX8_next_56 ?_
      refine zk_iald (pc := 59) B (gTokens_t3 hG) dX8_next_59 ?_
      refine zk_goto (tgt := 64) (pc := 60) B dX8_next_60 (by decide) ?_
      refine zk_sub [1, 0] rfl ?_
      exact J64 s0 (M.1 (o + 500) (M.1 (o + 499) 8).toNatClampNeg) M
  have J44 : ∀  (M : z_Mem), z_K X F 2 0 0 G z_cvm b 0 0 44 [(0, .ref (o + 499))] [] M (F_Tokens_next_J44 o M) := by
    intro  M
    unfold F_Tokens_next_J44
    refine zk_iconst (v := 0) (pc := 44) B dX8_next_44 (by decide) ?_
    exact J45 0 M
  have J23 : ∀  (M : z_Mem), z_K X F 2 0 0 G z_cvm b 0 0 23 [(0, .ref (o + 499))] [] M (F_Tokens_next_J23 o M) := by
    intro  M
    unfold F_Tokens_next_J23
    refine zk_aload_n (pc := 23) B dX8_next_23 0 rfl rfl ?_
    refine zk_geti (pc := 24) B kx_8 (gTokens_s hG) 8 (by decide) kf_8_56 rfl dX8_next_24 ?_
    refine zk_if_lt (tgt := 44) (pc := 27) B dX8_next_27 (by decide) (fun _ => ?_) (fun _ => ?_)
    · exact J44 M
    · refine zk_aload_n (pc := 30) B dX8_next_30 0 rfl rfl ?_
      refine zk_geti (pc := 31) B kx_8 (gTokens_s hG) 8 (by decide) kf_8_56 rfl dX8_next_31 ?_
      refine zk_sipush (v := 800) (pc := 34) B dX8_next_34 (by decide) ?_
      refine zk_icmp_gt (tgt := 44) (pc := 37) B dX8_next_37 (by decide) (fun _ => ?_) (fun _ => ?_)
      · exact J44 M
      · refine zk_iconst (v := 1) (pc := 40) B dX8_next_40 (by decide) ?_
        refine zk_goto (tgt := 45) (pc := 41) B dX8_next_41 (by decide) ?_
        exact J45 1 M
  show z_K X F 2 0 0 G z_cvm b 0 0 0 [(0, .ref (o + 499))] [] M (F_Tokens_next o M)
  unfold F_Tokens_next
  refine zk_aload_n (pc := 0) B dX8_next_0 0 rfl rfl ?_
  refine zk_geti (pc := 1) B kx_8 (gTokens_s hG) 8 (by decide) kf_8_56 rfl dX8_next_1 ?_
  refine zk_aload_n (pc := 4) B dX8_next_4 0 rfl rfl ?_
  refine zk_geti (pc := 5) B kx_8 (gTokens_s hG) 7 (by decide) kf_8_35 rfl dX8_next_5 ?_
  refine zk_iconst (v := 1) (pc := 8) B dX8_next_8 (by decide) ?_
  refine zk_isub (pc := 9) B dX8_next_9 ?_
  refine zk_icmp_ge (tgt := 23) (pc := 10) B dX8_next_10 (by decide) (fun _ => ?_) (fun _ => ?_)
  · exact J23 M
  · refine zk_aload_n (pc := 13) B dX8_next_13 0 rfl rfl ?_
    refine zk_dup (pc := 14) B dX8_next_14 rfl ?_
    refine zk_geti (pc := 15) B kx_8 (gTokens_s hG) 8 (by decide) kf_8_56 rfl dX8_next_15 ?_
    refine zk_iconst (v := 1) (pc := 18) B dX8_next_18 (by decide) ?_
    refine zk_iadd (pc := 19) B dX8_next_19 ?_
    refine zk_puti (pc := 20) B kx_8 (gTokens_s hG) 8 (by decide) kf_8_56 rfl rfl rfl rfl dX8_next_20 ?_
    refine zk_lm (fun M1 => ?_)
    exact J23 M1
set_option maxHeartbeats 4000000 in
set_option maxRecDepth 100000 in
theorem m_Tokens_takeWord {X : z_X} (hX : z_ok X) {G : z_Gr} {o : Nat} (hG : g_Sys G o) (p0 : Int32) (p1 : Int32) (M : z_Mem) (b : Int32 × z_Mem) (h : F_Tokens_takeWord o p0 p1 M = some b) : z_Ct X yX8_takeWord cX8_takeWord 4 (some .int) ({ frames := 1, cells := 0, slots := 0, locals := 21 } : Room) [.ref (o + 499), .int p0, .int p1] G M (fun o9 G9 M9 => G9 = G ∧ (o9, M9) = z_cim b) := by
  refine z_enter hX (by decide) (Nat.le_of_ble_eq_true rfl) h (fun F B hR => ?_)
  have J24 : ∀  (M : z_Mem), z_K X F 4 0 0 G z_cim b 0 0 24 [(0, .ref (o + 499))] [] M (F_Tokens_takeWord_J24 o M) := by
    intro  M
    unfold F_Tokens_takeWord_J24
    refine zk_aload_n (pc := 24) B dX8_takeWord_24 0 rfl rfl ?_
    refine zk_iconst (v := 1) (pc := 25) B dX8_takeWord_25 (by decide) ?_
    refine zk_cvm (pc := 26) (k' := 0) (n' := 0) B rfl rfl (Nat.le_of_ble_eq_true rfl) (Nat.le_of_ble_eq_true rfl) (fun b hb => zr_V B hR kV_yX8_fail km_8_94 kx_8 (gTokens_s hG) [.int 1] rfl rfl (Nat.le_of_ble_eq_true rfl) dX8_takeWord_26 (m_Tokens_fail hX hG 1 M b hb) ⟨Nat.le_of_ble_eq_true rfl, Nat.le_of_ble_eq_true rfl⟩ ⟨Nat.le_of_ble_eq_true rfl, Nat.le_of_ble_eq_true rfl⟩) (fun M3 => ?_)
    refine zk_iconst (v := (-1)) (pc := 29) B dX8_takeWord_29 (by decide) ?_
    exact zk_iret (pc := 30) B dX8_takeWord_30 rfl rfl (Nat.le_of_ble_eq_true rfl) (Nat.le_of_ble_eq_true rfl) rfl
  show z_K X F 4 0 0 G z_cim b 0 0 0 [(0, .ref (o + 499)), (1, .int p0), (2, .int p1)] [] M (F_Tokens_takeWord o p0 p1 M)
  unfold F_Tokens_takeWord
  refine zk_aload_n (pc := 0) B dX8_takeWord_0 0 rfl rfl ?_
  refine zk_geti (pc := 1) B kx_8 (gTokens_s hG) 9 (by decide) kf_8_88 rfl dX8_takeWord_1 ?_
  refine zk_iconst (v := 1) (pc := 4) B dX8_takeWord_4 (by decide) ?_
  refine zk_icmp_ne (tgt := 24) (pc := 5) B dX8_takeWord_5 (by decide) (fun _ => ?_) (fun _ => ?_)
  · refine zk_sub [0] rfl ?_
    exact J24 M
  · refine zk_aload_n (pc := 8) B dX8_takeWord_8 0 rfl rfl ?_
    refine zk_geti (pc := 9) B kx_8 (gTokens_s hG) 10 (by decide) kf_8_91 rfl dX8_takeWord_9 ?_
    refine zk_iload_n (pc := 12) B dX8_takeWord_12 1 rfl rfl ?_
    refine zk_icmp_lt (tgt := 24) (pc := 13) B dX8_takeWord_13 (by decide) (fun _ => ?_) (fun _ => ?_)
    · refine zk_sub [0] rfl ?_
      exact J24 M
    · refine zk_aload_n (pc := 16) B dX8_takeWord_16 0 rfl rfl ?_
      refine zk_geti (pc := 17) B kx_8 (gTokens_s hG) 10 (by decide) kf_8_91 rfl dX8_takeWord_17 ?_
      refine zk_iload_n (pc := 20) B dX8_takeWord_20 2 rfl rfl ?_
      refine zk_icmp_le (tgt := 31) (pc := 21) B dX8_takeWord_21 (by decide) (fun _ => ?_) (fun _ => ?_)
      · refine zk_aload_n (pc := 31) B dX8_takeWord_31 0 rfl rfl ?_
        refine zk_geti (pc := 32) B kx_8 (gTokens_s hG) 10 (by decide) kf_8_91 rfl dX8_takeWord_32 ?_
        refine zk_li (fun x1 => ?_)
        refine zk_istore_n (loc' := [(3, .int x1), (0, .ref (o + 499)), (1, .int p0), (2, .int p1)]) (pc := 35) B dX8_takeWord_35 rfl (by decide) rfl ?_
        refine zk_aload_n (pc := 36) B dX8_takeWord_36 1 rfl rfl ?_
        refine zk_cvm (pc := 37) (k' := 0) (n' := 0) B rfl rfl (Nat.le_of_ble_eq_true rfl) (Nat.le_of_ble_eq_true rfl) (fun b hb => zr_V B hR kV_yX8_next km_8_59 kx_8 (gTokens_s hG) [] rfl rfl (Nat.le_of_ble_eq_true rfl) dX8_takeWord_37 (m_Tokens_next hX hG M b hb) ⟨Nat.le_of_ble_eq_true rfl, Nat.le_of_ble_eq_true rfl⟩ ⟨Nat.le_of_ble_eq_true rfl, Nat.le_of_ble_eq_true rfl⟩) (fun M2 => ?_)
        refine zk_iload_n (pc := 40) B dX8_takeWord_40 0 rfl rfl ?_
        exact zk_iret (pc := 41) B dX8_takeWord_41 rfl rfl (Nat.le_of_ble_eq_true rfl) (Nat.le_of_ble_eq_true rfl) rfl
      · refine zk_sub [0] rfl ?_
        exact J24 M
set_option maxHeartbeats 4000000 in
set_option maxRecDepth 100000 in
theorem m_Tokens_checkNumber {X : z_X} (hX : z_ok X) {G : z_Gr} {o : Nat} (hG : g_Sys G o) (p0 : Int32) (p1 : Int32) (M : z_Mem) (b : Int32 × z_Mem) (h : F_Tokens_checkNumber o p0 p1 M = some b) : z_Ct X yX8_checkNumber cX8_checkNumber 3 (some .int) ({ frames := 1, cells := 0, slots := 0, locals := 21 } : Room) [.ref (o + 499), .int p0, .int p1] G M (fun o9 G9 M9 => G9 = G ∧ (o9, M9) = z_cim b) := by
  refine z_enter hX (by decide) (Nat.le_of_ble_eq_true rfl) h (fun F B hR => ?_)
  have J31 : ∀  (M : z_Mem), z_K X F 3 0 0 G z_cim b 0 0 31 [(0, .ref (o + 499))] [] M (F_Tokens_checkNumber_J31 o M) := by
    intro  M
    unfold F_Tokens_checkNumber_J31
    refine zk_aload_n (pc := 31) B dX8_checkNumber_31 0 rfl rfl ?_
    refine zk_iconst (v := 2) (pc := 32) B dX8_checkNumber_32 (by decide) ?_
    refine zk_cvm (pc := 33) (k' := 0) (n' := 0) B rfl rfl (Nat.le_of_ble_eq_true rfl) (Nat.le_of_ble_eq_true rfl) (fun b hb => zr_V B hR kV_yX8_fail km_8_94 kx_8 (gTokens_s hG) [.int 2] rfl rfl (Nat.le_of_ble_eq_true rfl) dX8_checkNumber_33 (m_Tokens_fail hX hG 2 M b hb) ⟨Nat.le_of_ble_eq_true rfl, Nat.le_of_ble_eq_true rfl⟩ ⟨Nat.le_of_ble_eq_true rfl, Nat.le_of_ble_eq_true rfl⟩) (fun M2 => ?_)
    refine zk_iconst (v := (-1)) (pc := 36) B dX8_checkNumber_36 (by decide) ?_
    exact zk_iret (pc := 37) B dX8_checkNumber_37 rfl rfl (Nat.le_of_ble_eq_true rfl) (Nat.le_of_ble_eq_true rfl) rfl
  show z_K X F 3 0 0 G z_cim b 0 0 0 [(0, .ref (o + 499)), (1, .int p0), (2, .int p1)] [] M (F_Tokens_checkNumber o p0 p1 M)
  unfold F_Tokens_checkNumber
  refine zk_aload_n (pc := 0) B dX8_checkNumber_0 0 rfl rfl ?_
  refine zk_geti (pc := 1) B kx_8 (gTokens_s hG) 9 (by decide) kf_8_88 rfl dX8_checkNumber_1 ?_
  refine zk_iconst (v := 2) (pc := 4) B dX8_checkNumber_4 (by decide) ?_
  refine zk_icmp_eq (tgt := 15) (pc := 5) B dX8_checkNumber_5 (by decide) (fun _ => ?_) (fun _ => ?_)
  · refine zk_aload_n (pc := 15) B dX8_checkNumber_15 0 rfl rfl ?_
    refine zk_geti (pc := 16) B kx_8 (gTokens_s hG) 10 (by decide) kf_8_91 rfl dX8_checkNumber_16 ?_
    refine zk_iload_n (pc := 19) B dX8_checkNumber_19 1 rfl rfl ?_
    refine zk_icmp_lt (tgt := 31) (pc := 20) B dX8_checkNumber_20 (by decide) (fun _ => ?_) (fun _ => ?_)
    · refine zk_sub [0] rfl ?_
      exact J31 M
    · refine zk_aload_n (pc := 23) B dX8_checkNumber_23 0 rfl rfl ?_
      refine zk_geti (pc := 24) B kx_8 (gTokens_s hG) 10 (by decide) kf_8_91 rfl dX8_checkNumber_24 ?_
      refine zk_iload_n (pc := 27) B dX8_checkNumber_27 2 rfl rfl ?_
      refine zk_icmp_le (tgt := 38) (pc := 28) B dX8_checkNumber_28 (by decide) (fun _ => ?_) (fun _ => ?_)
      · refine zk_aload_n (pc := 38) B dX8_checkNumber_38 0 rfl rfl ?_
        refine zk_geti (pc := 39) B kx_8 (gTokens_s hG) 10 (by decide) kf_8_91 rfl dX8_checkNumber_39 ?_
        exact zk_iret (pc := 42) B dX8_checkNumber_42 rfl rfl (Nat.le_of_ble_eq_true rfl) (Nat.le_of_ble_eq_true rfl) rfl
      · refine zk_sub [0] rfl ?_
        exact J31 M
  · refine zk_aload_n (pc := 8) B dX8_checkNumber_8 0 rfl rfl ?_
    refine zk_iconst (v := 1) (pc := 9) B dX8_checkNumber_9 (by decide) ?_
    refine zk_cvm (pc := 10) (k' := 0) (n' := 0) B rfl rfl (Nat.le_of_ble_eq_true rfl) (Nat.le_of_ble_eq_true rfl) (fun b hb => zr_V B hR kV_yX8_fail km_8_94 kx_8 (gTokens_s hG) [.int 1] rfl rfl (Nat.le_of_ble_eq_true rfl) dX8_checkNumber_10 (m_Tokens_fail hX hG 1 M b hb) ⟨Nat.le_of_ble_eq_true rfl, Nat.le_of_ble_eq_true rfl⟩ ⟨Nat.le_of_ble_eq_true rfl, Nat.le_of_ble_eq_true rfl⟩) (fun M1 => ?_)
    refine zk_iconst (v := (-1)) (pc := 13) B dX8_checkNumber_13 (by decide) ?_
    exact zk_iret (pc := 14) B dX8_checkNumber_14 rfl rfl (Nat.le_of_ble_eq_true rfl) (Nat.le_of_ble_eq_true rfl) rfl
set_option maxHeartbeats 4000000 in
set_option maxRecDepth 100000 in
theorem m_Tokens_takeNumber {X : z_X} (hX : z_ok X) {G : z_Gr} {o : Nat} (hG : g_Sys G o) (p0 : Int32) (p1 : Int32) (M : z_Mem) (b : Int32 × z_Mem) (h : F_Tokens_takeNumber o p0 p1 M = some b) : z_Ct X yX8_takeNumber cX8_takeNumber 4 (some .int) ({ frames := 2, cells := 0, slots := 0, locals := 43 } : Room) [.ref (o + 499), .int p0, .int p1] G M (fun o9 G9 M9 => G9 = G ∧ (o9, M9) = z_cim b) := by
  refine z_enter hX (by decide) (Nat.le_of_ble_eq_true rfl) h (fun F B hR => ?_)
  show z_K X F 4 0 0 G z_cim b 0 0 0 [(0, .ref (o + 499)), (1, .int p0), (2, .int p1)] [] M (F_Tokens_takeNumber o p0 p1 M)
  unfold F_Tokens_takeNumber
  refine zk_aload_n (pc := 0) B dX8_takeNumber_0 0 rfl rfl ?_
  refine zk_iload_n (pc := 1) B dX8_takeNumber_1 1 rfl rfl ?_
  refine zk_iload_n (pc := 2) B dX8_takeNumber_2 2 rfl rfl ?_
  refine zk_cim (pc := 3) (k' := 0) (n' := 0) B rfl rfl (Nat.le_of_ble_eq_true rfl) (Nat.le_of_ble_eq_true rfl) (fun b hb => zr_V B hR kV_yX8_checkNumber km_8_97 kx_8 (gTokens_s hG) [.int p0, .int p1] rfl rfl (Nat.le_of_ble_eq_true rfl) dX8_takeNumber_3 (m_Tokens_checkNumber hX hG p0 p1 M b hb) ⟨Nat.le_of_ble_eq_true rfl, Nat.le_of_ble_eq_true rfl⟩ ⟨Nat.le_of_ble_eq_true rfl, Nat.le_of_ble_eq_true rfl⟩) (fun x2 M1 => ?_)
  refine zk_istore_n (loc' := [(3, .int x2), (0, .ref (o + 499)), (1, .int p0), (2, .int p1)]) (pc := 6) B dX8_takeNumber_6 rfl (by decide) rfl ?_
  refine zk_aload_n (pc := 7) B dX8_takeNumber_7 1 rfl rfl ?_
  refine zk_cvm (pc := 8) (k' := 0) (n' := 0) B rfl rfl (Nat.le_of_ble_eq_true rfl) (Nat.le_of_ble_eq_true rfl) (fun b hb => zr_V B hR kV_yX8_next km_8_59 kx_8 (gTokens_s hG) [] rfl rfl (Nat.le_of_ble_eq_true rfl) dX8_takeNumber_8 (m_Tokens_next hX hG M1 b hb) ⟨Nat.le_of_ble_eq_true rfl, Nat.le_of_ble_eq_true rfl⟩ ⟨Nat.le_of_ble_eq_true rfl, Nat.le_of_ble_eq_true rfl⟩) (fun M3 => ?_)
  refine zk_iload_n (pc := 11) B dX8_takeNumber_11 0 rfl rfl ?_
  exact zk_iret (pc := 12) B dX8_takeNumber_12 rfl rfl (Nat.le_of_ble_eq_true rfl) (Nat.le_of_ble_eq_true rfl) rfl
set_option maxHeartbeats 4000000 in
set_option maxRecDepth 100000 in
theorem m_Town_clear {X : z_X} (hX : z_ok X) {G : z_Gr} {a : Nat} (ha : g_Town G a) (p0 : Int32) (M : z_Mem) (b : z_Mem) (h : F_Town_clear a p0 M = some b) : z_Ct X yX9_clear cX9_clear 4 none ({ frames := 0, cells := 0, slots := 0, locals := 0 } : Room) [.ref a, .int p0] G M (fun o9 G9 M9 => G9 = G ∧ (o9, M9) = z_cvm b) := by
  refine z_enter hX (by decide) (Nat.le_of_ble_eq_true rfl) h (fun F B hR => ?_)
  have L12 : ∀ (nf12 : Nat), ∀ (v2 : Int32) (M : z_Mem), z_K X F 4 0 0 G z_cvm b 0 0 12 [(0, .ref a), (2, .int v2)] [] M (F_Town_clear_L12 a nf12 v2 M) := by
    intro nf12
    induction nf12 with
    | zero => intro v2 M; exact zk_none
    | succ nf12 ih12 =>
      have L20 : ∀ (nf20 : Nat), ∀ (v2 : Int32) (v3 : Int32) (M : z_Mem), z_K X F 4 0 0 G z_cvm b 0 0 20 [(0, .ref a), (2, .int v2), (3, .int v3)] [] M (F_Town_clear_L20 a (F_Town_clear_L12 a nf12) nf20 v2 v3 M) := by
        intro nf20
        induction nf20 with
        | zero => intro v2 v3 M; exact zk_none
        | succ nf20 ih20 =>
          have J46 : ∀ (v2 : Int32) (v3 : Int32) (s0 : Int32) (s1 : Int32) (M : z_Mem), z_K X F 4 0 0 G z_cvm b 0 0 46 [(0, .ref a), (2, .int v2), (3, .int v3)] [.int s0, .int s1, .ref (a + 1)] M (F_Town_clear_J46 a (F_Town_clear_L12 a nf12) (F_Town_clear_L20 a (F_Town_clear_L12 a nf12) nf20) v2 v3 s0 s1 M) := by
            intro v2 v3 s0 s1 M
            unfold F_Town_clear_J46
            refine zk_iast (pc := 46) B (gTown_t2 ha) dX9_clear_46 ?_
            refine zk_lm (fun M4 => ?_)
            refine zk_iinc (y := 1) (lf := fun x5 => [(3, .int x5), (0, .ref a), (2, .int v2)]) (pc := 47) B dX9_clear_47 2 rfl (by decide) (by decide) (fun _ => rfl) (fun x5 => ?_)
            refine zk_goto (tgt := 20) (pc := 50) B dX9_clear_50 (by decide) ?_
            refine zk_sub [1, 2, 0] rfl ?_
            exact ih20 v2 x5 M4
          intro v2 v3 M
          show z_K X F 4 0 0 G z_cvm b 0 0 20 [(0, .ref a), (2, .int v2), (3, .int v3)] [] M (F_Town_clear_B20 a (F_Town_clear_L12 a nf12) (F_Town_clear_L20 a (F_Town_clear_L12 a nf12) nf20) v2 v3 M)
          unfold F_Town_clear_B20
          refine zk_iload_n (pc := 20) B dX9_clear_20 2 rfl rfl ?_
          refine zk_bipush (v := 8) (pc := 21) B dX9_clear_21 (by decide) ?_
          refine zk_icmp_ge (tgt := 53) (pc := 23) B dX9_clear_23 (by decide) (fun _ => ?_) (fun _ => ?_)
          · refine zk_iinc (y := 1) (lf := fun x3 => [(2, .int x3), (0, .ref a), (3, .int v3)]) (pc := 53) B dX9_clear_53 1 rfl (by decide) (by decide) (fun _ => rfl) (fun x3 => ?_)
            refine zk_goto (tgt := 12) (pc := 56) B dX9_clear_56 (by decide) ?_
            refine zk_sub [1, 0] rfl ?_
            exact ih12 x3 M
          · refine zk_aload_n (pc := 26) B dX9_clear_26 0 rfl rfl ?_
            refine zk_getr (pc := 27) B kx_9 (gTown_s ha) 2 (by decide) kf_9_9 rfl (gTown_f2 ha) dX9_clear_27 ?_
            refine zk_iload_n (pc := 30) B dX9_clear_30 1 rfl rfl ?_
            refine zk_bipush (v := 8) (pc := 31) B dX9_clear_31 (by decide) ?_
            refine zk_imul (pc := 33) B dX9_clear_33 ?_
            refine zk_iload_n (pc := 34) B dX9_clear_34 2 rfl rfl ?_
            refine zk_iadd (pc := 35) B dX9_clear_35 ?_
            refine zk_iload_n (pc := 36) B dX9_clear_36 1 rfl rfl ?_
            refine zk_iload_n (pc := 37) B dX9_clear_37 2 rfl rfl ?_
            refine zk_icmp_ne (tgt := 45) (pc := 38) B dX9_clear_38 (by decide) (fun _ => ?_) (fun _ => ?_)
            · refine zk_iconst (v := (-1)) (pc := 45) B dX9_clear_45 (by decide) ?_
              exact J46 v2 v3 (-1) ((v2 * 8) + v3) M
            · refine zk_iconst (v := 0) (pc := 41) B dX9_clear_41 (by decide) ?_
              refine zk_goto (tgt := 46) (pc := 42) B dX9_clear_42 (by decide) ?_
              exact J46 v2 v3 0 ((v2 * 8) + v3) M
      intro v2 M
      show z_K X F 4 0 0 G z_cvm b 0 0 12 [(0, .ref a), (2, .int v2)] [] M (F_Town_clear_B12 a (F_Town_clear_L12 a nf12) v2 M)
      unfold F_Town_clear_B12
      refine zk_iload_n (pc := 12) B dX9_clear_12 1 rfl rfl ?_
      refine zk_bipush (v := 8) (pc := 13) B dX9_clear_13 (by decide) ?_
      refine zk_icmp_ge (tgt := 59) (pc := 15) B dX9_clear_15 (by decide) (fun _ => ?_) (fun _ => ?_)
      · exact zk_vret (pc := 59) B dX9_clear_59 rfl (Nat.le_of_ble_eq_true rfl) (Nat.le_of_ble_eq_true rfl) rfl
      · refine zk_iconst (v := 0) (pc := 18) B dX9_clear_18 (by decide) ?_
        refine zk_istore_n (loc' := [(3, .int 0), (0, .ref a), (2, .int v2)]) (pc := 19) B dX9_clear_19 rfl (by decide) rfl ?_
        refine zk_sub [1, 2, 0] rfl ?_
        exact L20 10000 v2 0 M
  show z_K X F 4 0 0 G z_cvm b 0 0 0 [(0, .ref a), (1, .int p0)] [] M (F_Town_clear a p0 M)
  unfold F_Town_clear
  refine zk_aload_n (pc := 0) B dX9_clear_0 0 rfl rfl ?_
  refine zk_iload_n (pc := 1) B dX9_clear_1 1 rfl rfl ?_
  refine zk_puti (pc := 2) B kx_9 (gTown_s ha) 0 (by decide) kf_9_15 rfl rfl rfl rfl dX9_clear_2 ?_
  refine zk_lm (fun M1 => ?_)
  refine zk_aload_n (pc := 5) B dX9_clear_5 0 rfl rfl ?_
  refine zk_iconst (v := 0) (pc := 6) B dX9_clear_6 (by decide) ?_
  refine zk_puti (pc := 7) B kx_9 (gTown_s ha) 1 (by decide) kf_9_19 rfl rfl rfl rfl dX9_clear_7 ?_
  refine zk_lm (fun M2 => ?_)
  refine zk_iconst (v := 0) (pc := 10) B dX9_clear_10 (by decide) ?_
  refine zk_istore_n (loc' := [(2, .int 0), (0, .ref a), (1, .int p0)]) (pc := 11) B dX9_clear_11 rfl (by decide) rfl ?_
  refine zk_sub [1, 0] rfl ?_
  exact L12 10000 0 M2
set_option maxHeartbeats 4000000 in
set_option maxRecDepth 100000 in
theorem m_Tokens_takeSign {X : z_X} (hX : z_ok X) {G : z_Gr} {o : Nat} (hG : g_Sys G o) (p0 : Int32) (M : z_Mem) (b : z_Mem) (h : F_Tokens_takeSign o p0 M = some b) : z_Ct X yX8_takeSign cX8_takeSign 2 none ({ frames := 1, cells := 0, slots := 0, locals := 21 } : Room) [.ref (o + 499), .int p0] G M (fun o9 G9 M9 => G9 = G ∧ (o9, M9) = z_cvm b) := by
  refine z_enter hX (by decide) (Nat.le_of_ble_eq_true rfl) h (fun F B hR => ?_)
  have J23 : ∀  (M : z_Mem), z_K X F 2 0 0 G z_cvm b 0 0 23 [(0, .ref (o + 499))] [] M (F_Tokens_takeSign_J23 o M) := by
    intro  M
    unfold F_Tokens_takeSign_J23
    refine zk_aload_n (pc := 23) B dX8_takeSign_23 0 rfl rfl ?_
    refine zk_iconst (v := 1) (pc := 24) B dX8_takeSign_24 (by decide) ?_
    refine zk_cvm (pc := 25) (k' := 0) (n' := 0) B rfl rfl (Nat.le_of_ble_eq_true rfl) (Nat.le_of_ble_eq_true rfl) (fun b hb => zr_V B hR kV_yX8_fail km_8_94 kx_8 (gTokens_s hG) [.int 1] rfl rfl (Nat.le_of_ble_eq_true rfl) dX8_takeSign_25 (m_Tokens_fail hX hG 1 M b hb) ⟨Nat.le_of_ble_eq_true rfl, Nat.le_of_ble_eq_true rfl⟩ ⟨Nat.le_of_ble_eq_true rfl, Nat.le_of_ble_eq_true rfl⟩) (fun M2 => ?_)
    exact zk_vret (pc := 28) B dX8_takeSign_28 rfl (Nat.le_of_ble_eq_true rfl) (Nat.le_of_ble_eq_true rfl) rfl
  show z_K X F 2 0 0 G z_cvm b 0 0 0 [(0, .ref (o + 499)), (1, .int p0)] [] M (F_Tokens_takeSign o p0 M)
  unfold F_Tokens_takeSign
  refine zk_aload_n (pc := 0) B dX8_takeSign_0 0 rfl rfl ?_
  refine zk_geti (pc := 1) B kx_8 (gTokens_s hG) 9 (by decide) kf_8_88 rfl dX8_takeSign_1 ?_
  refine zk_iconst (v := 3) (pc := 4) B dX8_takeSign_4 (by decide) ?_
  refine zk_icmp_ne (tgt := 23) (pc := 5) B dX8_takeSign_5 (by decide) (fun _ => ?_) (fun _ => ?_)
  · refine zk_sub [0] rfl ?_
    exact J23 M
  · refine zk_aload_n (pc := 8) B dX8_takeSign_8 0 rfl rfl ?_
    refine zk_geti (pc := 9) B kx_8 (gTokens_s hG) 10 (by decide) kf_8_91 rfl dX8_takeSign_9 ?_
    refine zk_iload_n (pc := 12) B dX8_takeSign_12 1 rfl rfl ?_
    refine zk_icmp_ne (tgt := 23) (pc := 13) B dX8_takeSign_13 (by decide) (fun _ => ?_) (fun _ => ?_)
    · refine zk_sub [0] rfl ?_
      exact J23 M
    · refine zk_aload_n (pc := 16) B dX8_takeSign_16 0 rfl rfl ?_
      refine zk_cvm (pc := 17) (k' := 0) (n' := 0) B rfl rfl (Nat.le_of_ble_eq_true rfl) (Nat.le_of_ble_eq_true rfl) (fun b hb => zr_V B hR kV_yX8_next km_8_59 kx_8 (gTokens_s hG) [] rfl rfl (Nat.le_of_ble_eq_true rfl) dX8_takeSign_17 (m_Tokens_next hX hG M b hb) ⟨Nat.le_of_ble_eq_true rfl, Nat.le_of_ble_eq_true rfl⟩ ⟨Nat.le_of_ble_eq_true rfl, Nat.le_of_ble_eq_true rfl⟩) (fun M1 => ?_)
      refine zk_goto (tgt := 28) (pc := 20) B dX8_takeSign_20 (by decide) ?_
      exact zk_vret (pc := 28) B dX8_takeSign_28 rfl (Nat.le_of_ble_eq_true rfl) (Nat.le_of_ble_eq_true rfl) rfl
set_option maxHeartbeats 4000000 in
set_option maxRecDepth 100000 in
theorem m_Tokens_hasMore {X : z_X} (hX : z_ok X) {G : z_Gr} {o : Nat} (hG : g_Sys G o) (M : z_Mem) (b : Int32) (h : F_Tokens_hasMore o M = some b) : z_Ct X yX8_hasMore cX8_hasMore 1 (some .boolean) ({ frames := 0, cells := 0, slots := 0, locals := 0 } : Room) [.ref (o + 499)] G M (fun o9 G9 M9 => G9 = G ∧ (o9, M9) = (z_ci M) b) := by
  refine z_enter hX (by decide) (Nat.le_of_ble_eq_true rfl) h (fun F B hR => ?_)
  show z_K X F 1 0 0 G (z_ci M) b 0 0 0 [(0, .ref (o + 499))] [] M (F_Tokens_hasMore o M)
  unfold F_Tokens_hasMore
  refine zk_aload_n (pc := 0) B dX8_hasMore_0 0 rfl rfl ?_
  refine zk_geti (pc := 1) B kx_8 (gTokens_s hG) 0 (by decide) kf_8_32 rfl dX8_hasMore_1 ?_
  refine zk_if_ne (tgt := 19) (pc := 4) B dX8_hasMore_4 (by decide) (fun _ => ?_) (fun _ => ?_)
  · refine zk_iconst (v := 0) (pc := 19) B dX8_hasMore_19 (by decide) ?_
    exact zk_iret (pc := 20) B dX8_hasMore_20 rfl rfl (Nat.le_of_ble_eq_true rfl) (Nat.le_of_ble_eq_true rfl) rfl
  · refine zk_aload_n (pc := 7) B dX8_hasMore_7 0 rfl rfl ?_
    refine zk_geti (pc := 8) B kx_8 (gTokens_s hG) 9 (by decide) kf_8_88 rfl dX8_hasMore_8 ?_
    refine zk_iconst (v := 4) (pc := 11) B dX8_hasMore_11 (by decide) ?_
    refine zk_icmp_eq (tgt := 19) (pc := 12) B dX8_hasMore_12 (by decide) (fun _ => ?_) (fun _ => ?_)
    · refine zk_iconst (v := 0) (pc := 19) B dX8_hasMore_19 (by decide) ?_
      exact zk_iret (pc := 20) B dX8_hasMore_20 rfl rfl (Nat.le_of_ble_eq_true rfl) (Nat.le_of_ble_eq_true rfl) rfl
    · refine zk_iconst (v := 1) (pc := 15) B dX8_hasMore_15 (by decide) ?_
      refine zk_goto (tgt := 20) (pc := 16) B dX8_hasMore_16 (by decide) ?_
      exact zk_iret (pc := 20) B dX8_hasMore_20 rfl rfl (Nat.le_of_ble_eq_true rfl) (Nat.le_of_ble_eq_true rfl) rfl
set_option maxHeartbeats 4000000 in
set_option maxRecDepth 100000 in
theorem m_Tokens_isWord {X : z_X} (hX : z_ok X) {G : z_Gr} {o : Nat} (hG : g_Sys G o) (p0 : Int32) (M : z_Mem) (b : Int32) (h : F_Tokens_isWord o p0 M = some b) : z_Ct X yX8_isWord cX8_isWord 2 (some .boolean) ({ frames := 0, cells := 0, slots := 0, locals := 0 } : Room) [.ref (o + 499), .int p0] G M (fun o9 G9 M9 => G9 = G ∧ (o9, M9) = (z_ci M) b) := by
  refine z_enter hX (by decide) (Nat.le_of_ble_eq_true rfl) h (fun F B hR => ?_)
  show z_K X F 2 0 0 G (z_ci M) b 0 0 0 [(0, .ref (o + 499)), (1, .int p0)] [] M (F_Tokens_isWord o p0 M)
  unfold F_Tokens_isWord
  refine zk_aload_n (pc := 0) B dX8_isWord_0 0 rfl rfl ?_
  refine zk_geti (pc := 1) B kx_8 (gTokens_s hG) 9 (by decide) kf_8_88 rfl dX8_isWord_1 ?_
  refine zk_iconst (v := 1) (pc := 4) B dX8_isWord_4 (by decide) ?_
  refine zk_icmp_ne (tgt := 20) (pc := 5) B dX8_isWord_5 (by decide) (fun _ => ?_) (fun _ => ?_)
  · refine zk_iconst (v := 0) (pc := 20) B dX8_isWord_20 (by decide) ?_
    exact zk_iret (pc := 21) B dX8_isWord_21 rfl rfl (Nat.le_of_ble_eq_true rfl) (Nat.le_of_ble_eq_true rfl) rfl
  · refine zk_aload_n (pc := 8) B dX8_isWord_8 0 rfl rfl ?_
    refine zk_geti (pc := 9) B kx_8 (gTokens_s hG) 10 (by decide) kf_8_91 rfl dX8_isWord_9 ?_
    refine zk_iload_n (pc := 12) B dX8_isWord_12 1 rfl rfl ?_
    refine zk_icmp_ne (tgt := 20) (pc := 13) B dX8_isWord_13 (by decide) (fun _ => ?_) (fun _ => ?_)
    · refine zk_iconst (v := 0) (pc := 20) B dX8_isWord_20 (by decide) ?_
      exact zk_iret (pc := 21) B dX8_isWord_21 rfl rfl (Nat.le_of_ble_eq_true rfl) (Nat.le_of_ble_eq_true rfl) rfl
    · refine zk_iconst (v := 1) (pc := 16) B dX8_isWord_16 (by decide) ?_
      refine zk_goto (tgt := 21) (pc := 17) B dX8_isWord_17 (by decide) ?_
      exact zk_iret (pc := 21) B dX8_isWord_21 rfl rfl (Nat.le_of_ble_eq_true rfl) (Nat.le_of_ble_eq_true rfl) rfl
set_option maxHeartbeats 4000000 in
set_option maxRecDepth 100000 in
theorem m_Town_addRoad {X : z_X} (hX : z_ok X) {G : z_Gr} {a : Nat} (ha : g_Town G a) (p0 : Int32) (p1 : Int32) (p2 : Int32) (M : z_Mem) (b : z_Mem) (h : F_Town_addRoad a p0 p1 p2 M = some b) : z_Ct X yX9_addRoad cX9_addRoad 4 none ({ frames := 1, cells := 0, slots := 0, locals := 21 } : Room) [.ref a, .int p0, .int p1, .int p2] G M (fun o9 G9 M9 => G9 = G ∧ (o9, M9) = z_cvm b) := by
  refine z_enter hX (by decide) (Nat.le_of_ble_eq_true rfl) h (fun F B hR => ?_)
  show z_K X F 4 0 0 G z_cvm b 0 0 0 [(0, .ref a), (1, .int p0), (2, .int p1), (3, .int p2)] [] M (F_Town_addRoad a p0 p1 p2 M)
  unfold F_Town_addRoad
  refine zk_iload_n (pc := 0) B dX9_addRoad_0 1 rfl rfl ?_
  refine zk_iload_n (pc := 1) B dX9_addRoad_1 2 rfl rfl ?_
  refine zk_cpi (pc := 2) (k' := 0) (n' := 0) B rfl rfl (Nat.le_of_ble_eq_true rfl) (Nat.le_of_ble_eq_true rfl) (fun b hb => zr_S B hR kS_yX9_hasPlaces km_9_22 [.int p0, .int p1] rfl rfl (Nat.le_of_ble_eq_true rfl) dX9_addRoad_2 (m_Town_hasPlaces hX p0 p1 M b hb) ⟨Nat.le_of_ble_eq_true rfl, Nat.le_of_ble_eq_true rfl⟩ ⟨Nat.le_of_ble_eq_true rfl, Nat.le_of_ble_eq_true rfl⟩) (fun x1 _ => ?_)
  refine zk_if_ne (tgt := 9) (pc := 5) B dX9_addRoad_5 (by decide) (fun _ => ?_) (fun _ => ?_)
  · refine zk_aload_n (pc := 9) B dX9_addRoad_9 0 rfl rfl ?_
    refine zk_dup (pc := 10) B dX9_addRoad_10 rfl ?_
    refine zk_geti (pc := 11) B kx_9 (gTown_s ha) 1 (by decide) kf_9_19 rfl dX9_addRoad_11 ?_
    refine zk_iconst (v := 1) (pc := 14) B dX9_addRoad_14 (by decide) ?_
    refine zk_iadd (pc := 15) B dX9_addRoad_15 ?_
    refine zk_puti (pc := 16) B kx_9 (gTown_s ha) 1 (by decide) kf_9_19 rfl rfl rfl rfl dX9_addRoad_16 ?_
    refine zk_lm (fun M2 => ?_)
    refine zk_aload_n (pc := 19) B dX9_addRoad_19 0 rfl rfl ?_
    refine zk_getr (pc := 20) B kx_9 (gTown_s ha) 2 (by decide) kf_9_9 rfl (gTown_f2 ha) dX9_addRoad_20 ?_
    refine zk_iload_n (pc := 23) B dX9_addRoad_23 1 rfl rfl ?_
    refine zk_bipush (v := 8) (pc := 24) B dX9_addRoad_24 (by decide) ?_
    refine zk_imul (pc := 26) B dX9_addRoad_26 ?_
    refine zk_iload_n (pc := 27) B dX9_addRoad_27 2 rfl rfl ?_
    refine zk_iadd (pc := 28) B dX9_addRoad_28 ?_
    refine zk_iload_n (pc := 29) B dX9_addRoad_29 3 rfl rfl ?_
    refine zk_iast (pc := 30) B (gTown_t2 ha) dX9_addRoad_30 ?_
    refine zk_lm (fun M3 => ?_)
    refine zk_aload_n (pc := 31) B dX9_addRoad_31 0 rfl rfl ?_
    refine zk_getr (pc := 32) B kx_9 (gTown_s ha) 2 (by decide) kf_9_9 rfl (gTown_f2 ha) dX9_addRoad_32 ?_
    refine zk_iload_n (pc := 35) B dX9_addRoad_35 2 rfl rfl ?_
    refine zk_bipush (v := 8) (pc := 36) B dX9_addRoad_36 (by decide) ?_
    refine zk_imul (pc := 38) B dX9_addRoad_38 ?_
    refine zk_iload_n (pc := 39) B dX9_addRoad_39 1 rfl rfl ?_
    refine zk_iadd (pc := 40) B dX9_addRoad_40 ?_
    refine zk_iload_n (pc := 41) B dX9_addRoad_41 3 rfl rfl ?_
    refine zk_iast (pc := 42) B (gTown_t2 ha) dX9_addRoad_42 ?_
    refine zk_lm (fun M4 => ?_)
    exact zk_vret (pc := 43) B dX9_addRoad_43 rfl (Nat.le_of_ble_eq_true rfl) (Nat.le_of_ble_eq_true rfl) rfl
  · exact zk_vret (pc := 8) B dX9_addRoad_8 rfl (Nat.le_of_ble_eq_true rfl) (Nat.le_of_ble_eq_true rfl) rfl
set_option maxHeartbeats 4000000 in
set_option maxRecDepth 100000 in
theorem m_TextReader_readRoad {X : z_X} (hX : z_ok X) {G : z_Gr} {o : Nat} (hG : g_Sys G o) (M : z_Mem) (b : z_Mem) (h : F_TextReader_readRoad o M = some b) : z_Ct X yX7_readRoad cX7_readRoad 3 none ({ frames := 3, cells := 0, slots := 0, locals := 66 } : Room) [.ref (o + 504)] G M (fun o9 G9 M9 => G9 = G ∧ (o9, M9) = z_cvm b) := by
  refine z_enter hX (by decide) (Nat.le_of_ble_eq_true rfl) h (fun F B hR => ?_)
  have J57 : ∀ (v1 : Int32) (v2 : Int32) (M : z_Mem), z_K X F 3 0 0 G z_cvm b 0 0 57 [(0, .ref (o + 504)), (1, .int v1), (2, .int v2)] [] M (F_TextReader_readRoad_J57 o v1 v2 M) := by
    intro v1 v2 M
    unfold F_TextReader_readRoad_J57
    refine zk_aload_n (pc := 57) B dX7_readRoad_57 0 rfl rfl ?_
    refine zk_getr (pc := 58) B kx_7 (gTextReader_s hG) 2 (by decide) kf_7_25 rfl (gTextReader_f2 hG) dX7_readRoad_58 ?_
    refine zk_cvm (pc := 61) (k' := 0) (n' := 0) B rfl rfl (Nat.le_of_ble_eq_true rfl) (Nat.le_of_ble_eq_true rfl) (fun b hb => zr_V B hR kV_yX8_next km_7_93 kx_8 (gTokens_s hG) [] rfl rfl (Nat.le_of_ble_eq_true rfl) dX7_readRoad_61 (m_Tokens_next hX hG M b hb) ⟨Nat.le_of_ble_eq_true rfl, Nat.le_of_ble_eq_true rfl⟩ ⟨Nat.le_of_ble_eq_true rfl, Nat.le_of_ble_eq_true rfl⟩) (fun M7 => ?_)
    refine zk_aload_n (pc := 64) B dX7_readRoad_64 0 rfl rfl ?_
    refine zk_getr (pc := 65) B kx_7 (gTextReader_s hG) 0 (by decide) kf_7_12 rfl (gTextReader_f0 hG) dX7_readRoad_65 ?_
    refine zk_iload_n (pc := 68) B dX7_readRoad_68 1 rfl rfl ?_
    refine zk_iload_n (pc := 69) B dX7_readRoad_69 2 rfl rfl ?_
    refine zk_aload_n (pc := 70) B dX7_readRoad_70 0 rfl rfl ?_
    refine zk_getr (pc := 71) B kx_7 (gTextReader_s hG) 2 (by decide) kf_7_25 rfl (gTextReader_f2 hG) dX7_readRoad_71 ?_
    refine zk_iconst (v := 1) (pc := 74) B dX7_readRoad_74 (by decide) ?_
    refine zk_bipush (v := 99) (pc := 75) B dX7_readRoad_75 (by decide) ?_
    refine zk_cim (pc := 77) (k' := 0) (n' := 0) B rfl rfl (Nat.le_of_ble_eq_true rfl) (Nat.le_of_ble_eq_true rfl) (fun b hb => zr_V B hR kV_yX8_takeNumber km_7_38 kx_8 (gTokens_s hG) [.int 1, .int 99] rfl rfl (Nat.le_of_ble_eq_true rfl) dX7_readRoad_77 (m_Tokens_takeNumber hX hG 1 99 M7 b hb) ⟨Nat.le_of_ble_eq_true rfl, Nat.le_of_ble_eq_true rfl⟩ ⟨Nat.le_of_ble_eq_true rfl, Nat.le_of_ble_eq_true rfl⟩) (fun x9 M8 => ?_)
    refine zk_cvm (pc := 80) (k' := 0) (n' := 0) B rfl rfl (Nat.le_of_ble_eq_true rfl) (Nat.le_of_ble_eq_true rfl) (fun b hb => zr_V B hR kV_yX9_addRoad km_7_96 kx_9 (gTown_s (gTextReader_t0 hG)) [.int v1, .int v2, .int x9] rfl rfl (Nat.le_of_ble_eq_true rfl) dX7_readRoad_80 (m_Town_addRoad hX (gTextReader_t0 hG) v1 v2 x9 M8 b hb) ⟨Nat.le_of_ble_eq_true rfl, Nat.le_of_ble_eq_true rfl⟩ ⟨Nat.le_of_ble_eq_true rfl, Nat.le_of_ble_eq_true rfl⟩) (fun M10 => ?_)
    exact zk_vret (pc := 83) B dX7_readRoad_83 rfl (Nat.le_of_ble_eq_true rfl) (Nat.le_of_ble_eq_true rfl) rfl
  show z_K X F 3 0 0 G z_cvm b 0 0 0 [(0, .ref (o + 504))] [] M (F_TextReader_readRoad o M)
  unfold F_TextReader_readRoad
  refine zk_aload_n (pc := 0) B dX7_readRoad_0 0 rfl rfl ?_
  refine zk_getr (pc := 1) B kx_7 (gTextReader_s hG) 2 (by decide) kf_7_25 rfl (gTextReader_f2 hG) dX7_readRoad_1 ?_
  refine zk_iconst (v := 0) (pc := 4) B dX7_readRoad_4 (by decide) ?_
  refine zk_aload_n (pc := 5) B dX7_readRoad_5 0 rfl rfl ?_
  refine zk_getr (pc := 6) B kx_7 (gTextReader_s hG) 0 (by decide) kf_7_12 rfl (gTextReader_f0 hG) dX7_readRoad_6 ?_
  refine zk_geti (pc := 9) B kx_9 (gTown_s (gTextReader_t0 hG)) 0 (by decide) kf_7_84 rfl dX7_readRoad_9 ?_
  refine zk_iconst (v := 1) (pc := 12) B dX7_readRoad_12 (by decide) ?_
  refine zk_isub (pc := 13) B dX7_readRoad_13 ?_
  refine zk_cim (pc := 14) (k' := 0) (n' := 0) B rfl rfl (Nat.le_of_ble_eq_true rfl) (Nat.le_of_ble_eq_true rfl) (fun b hb => zr_V B hR kV_yX8_takeNumber km_7_38 kx_8 (gTokens_s hG) [.int 0, .int ((M.1 (o + 505) 0) - 1)] rfl rfl (Nat.le_of_ble_eq_true rfl) dX7_readRoad_14 (m_Tokens_takeNumber hX hG 0 ((M.1 (o + 505) 0) - 1) M b hb) ⟨Nat.le_of_ble_eq_true rfl, Nat.le_of_ble_eq_true rfl⟩ ⟨Nat.le_of_ble_eq_true rfl, Nat.le_of_ble_eq_true rfl⟩) (fun x2 M1 => ?_)
  refine zk_istore_n (loc' := [(1, .int x2), (0, .ref (o + 504))]) (pc := 17) B dX7_readRoad_17 rfl (by decide) rfl ?_
  refine zk_aload_n (pc := 18) B dX7_readRoad_18 1 rfl rfl ?_
  refine zk_getr (pc := 19) B kx_7 (gTextReader_s hG) 2 (by decide) kf_7_25 rfl (gTextReader_f2 hG) dX7_readRoad_19 ?_
  refine zk_iconst (v := 0) (pc := 22) B dX7_readRoad_22 (by decide) ?_
  refine zk_aload_n (pc := 23) B dX7_readRoad_23 1 rfl rfl ?_
  refine zk_getr (pc := 24) B kx_7 (gTextReader_s hG) 0 (by decide) kf_7_12 rfl (gTextReader_f0 hG) dX7_readRoad_24 ?_
  refine zk_geti (pc := 27) B kx_9 (gTown_s (gTextReader_t0 hG)) 0 (by decide) kf_7_84 rfl dX7_readRoad_27 ?_
  refine zk_iconst (v := 1) (pc := 30) B dX7_readRoad_30 (by decide) ?_
  refine zk_isub (pc := 31) B dX7_readRoad_31 ?_
  refine zk_cim (pc := 32) (k' := 0) (n' := 0) B rfl rfl (Nat.le_of_ble_eq_true rfl) (Nat.le_of_ble_eq_true rfl) (fun b hb => zr_V B hR kV_yX8_checkNumber km_7_87 kx_8 (gTokens_s hG) [.int 0, .int ((M1.1 (o + 505) 0) - 1)] rfl rfl (Nat.le_of_ble_eq_true rfl) dX7_readRoad_32 (m_Tokens_checkNumber hX hG 0 ((M1.1 (o + 505) 0) - 1) M1 b hb) ⟨Nat.le_of_ble_eq_true rfl, Nat.le_of_ble_eq_true rfl⟩ ⟨Nat.le_of_ble_eq_true rfl, Nat.le_of_ble_eq_true rfl⟩) (fun x4 M3 => ?_)
  refine zk_istore_n (loc' := [(2, .int x4), (1, .int x2), (0, .ref (o + 504))]) (pc := 35) B dX7_readRoad_35 rfl (by decide) rfl ?_
  refine zk_aload_n (pc := 36) B dX7_readRoad_36 2 rfl rfl ?_
  refine zk_getr (pc := 37) B kx_7 (gTextReader_s hG) 0 (by decide) kf_7_12 rfl (gTextReader_f0 hG) dX7_readRoad_37 ?_
  refine zk_iload_n (pc := 40) B dX7_readRoad_40 1 rfl rfl ?_
  refine zk_iload_n (pc := 41) B dX7_readRoad_41 0 rfl rfl ?_
  refine zk_cpi (pc := 42) (k' := 0) (n' := 0) B rfl rfl (Nat.le_of_ble_eq_true rfl) (Nat.le_of_ble_eq_true rfl) (fun b hb => zr_V B hR kV_yX9_wayMinutes km_7_90 kx_9 (gTown_s (gTextReader_t0 hG)) [.int x2, .int x4] rfl rfl (Nat.le_of_ble_eq_true rfl) dX7_readRoad_42 (m_Town_wayMinutes hX (gTextReader_t0 hG) x2 x4 M3 b hb) ⟨Nat.le_of_ble_eq_true rfl, Nat.le_of_ble_eq_true rfl⟩ ⟨Nat.le_of_ble_eq_true rfl, Nat.le_of_ble_eq_true rfl⟩) (fun x5 _ => ?_)
  refine zk_iconst (v := (-1)) (pc := 45) B dX7_readRoad_45 (by decide) ?_
  refine zk_icmp_eq (tgt := 57) (pc := 46) B dX7_readRoad_46 (by decide) (fun _ => ?_) (fun _ => ?_)
  · refine zk_sub [2, 1, 0] rfl ?_
    exact J57 x2 x4 M3
  · refine zk_aload_n (pc := 49) B dX7_readRoad_49 2 rfl rfl ?_
    refine zk_getr (pc := 50) B kx_7 (gTextReader_s hG) 2 (by decide) kf_7_25 rfl (gTextReader_f2 hG) dX7_readRoad_50 ?_
    refine zk_iconst (v := 4) (pc := 53) B dX7_readRoad_53 (by decide) ?_
    refine zk_cvm (pc := 54) (k' := 0) (n' := 0) B rfl rfl (Nat.le_of_ble_eq_true rfl) (Nat.le_of_ble_eq_true rfl) (fun b hb => zr_V B hR kV_yX8_fail km_7_66 kx_8 (gTokens_s hG) [.int 4] rfl rfl (Nat.le_of_ble_eq_true rfl) dX7_readRoad_54 (m_Tokens_fail hX hG 4 M3 b hb) ⟨Nat.le_of_ble_eq_true rfl, Nat.le_of_ble_eq_true rfl⟩ ⟨Nat.le_of_ble_eq_true rfl, Nat.le_of_ble_eq_true rfl⟩) (fun M6 => ?_)
    refine zk_sub [2, 1, 0] rfl ?_
    exact J57 x2 x4 M6
set_option maxHeartbeats 4000000 in
set_option maxRecDepth 100000 in
theorem m_TextReader_readRuleValue {X : z_X} (hX : z_ok X) {G : z_Gr} {o : Nat} (hG : g_Sys G o) (p0 : Int32) (M : z_Mem) (b : z_Mem) (h : F_TextReader_readRuleValue o p0 M = some b) : z_Ct X yX7_readRuleValue cX7_readRuleValue 2 none ({ frames := 3, cells := 0, slots := 0, locals := 66 } : Room) [.ref (o + 504), .int p0] G M (fun o9 G9 M9 => G9 = G ∧ (o9, M9) = z_cvm b) := by
  refine z_enter hX (by decide) (Nat.le_of_ble_eq_true rfl) h (fun F B hR => ?_)
  show z_K X F 2 0 0 G z_cvm b 0 0 0 [(0, .ref (o + 504)), (1, .int p0)] [] M (F_TextReader_readRuleValue o p0 M)
  unfold F_TextReader_readRuleValue
  refine zk_iload_n (pc := 0) B dX7_readRuleValue_0 1 rfl rfl ?_
  refine zk_if_lt (tgt := 35) (pc := 1) B dX7_readRuleValue_1 (by decide) (fun _ => ?_) (fun _ => ?_)
  · exact zk_vret (pc := 35) B dX7_readRuleValue_35 rfl (Nat.le_of_ble_eq_true rfl) (Nat.le_of_ble_eq_true rfl) rfl
  · refine zk_iload_n (pc := 4) B dX7_readRuleValue_4 1 rfl rfl ?_
    refine zk_bipush (v := 10) (pc := 5) B dX7_readRuleValue_5 (by decide) ?_
    refine zk_icmp_ge (tgt := 35) (pc := 7) B dX7_readRuleValue_7 (by decide) (fun _ => ?_) (fun _ => ?_)
    · exact zk_vret (pc := 35) B dX7_readRuleValue_35 rfl (Nat.le_of_ble_eq_true rfl) (Nat.le_of_ble_eq_true rfl) rfl
    · refine zk_aload_n (pc := 10) B dX7_readRuleValue_10 0 rfl rfl ?_
      refine zk_getr (pc := 11) B kx_7 (gTextReader_s hG) 1 (by decide) kf_7_21 rfl (gTextReader_f1 hG) dX7_readRuleValue_11 ?_
      refine zk_iload_n (pc := 14) B dX7_readRuleValue_14 1 rfl rfl ?_
      refine zk_aload_n (pc := 15) B dX7_readRuleValue_15 0 rfl rfl ?_
      refine zk_getr (pc := 16) B kx_7 (gTextReader_s hG) 2 (by decide) kf_7_25 rfl (gTextReader_f2 hG) dX7_readRuleValue_16 ?_
      refine zk_getsN (pc := 19) B 1 (by decide) z_nest_1 dX7_readRuleValue_19 ?_
      refine zk_iload_n (pc := 22) B dX7_readRuleValue_22 1 rfl rfl ?_
      refine zk_tald (pc := 23) B 1 (by decide) dX7_readRuleValue_23 ?_
      refine zk_getsN (pc := 24) B 2 (by decide) z_nest_2 dX7_readRuleValue_24 ?_
      refine zk_iload_n (pc := 27) B dX7_readRuleValue_27 1 rfl rfl ?_
      refine zk_tald (pc := 28) B 2 (by decide) dX7_readRuleValue_28 ?_
      refine zk_cim (pc := 29) (k' := 0) (n' := 0) B rfl rfl (Nat.le_of_ble_eq_true rfl) (Nat.le_of_ble_eq_true rfl) (fun b hb => zr_V B hR kV_yX8_takeNumber km_7_38 kx_8 (gTokens_s hG) [.int (z_sv 1 p0.toNatClampNeg), .int (z_sv 2 p0.toNatClampNeg)] rfl rfl (Nat.le_of_ble_eq_true rfl) dX7_readRuleValue_29 (m_Tokens_takeNumber hX hG (z_sv 1 p0.toNatClampNeg) (z_sv 2 p0.toNatClampNeg) M b hb) ⟨Nat.le_of_ble_eq_true rfl, Nat.le_of_ble_eq_true rfl⟩ ⟨Nat.le_of_ble_eq_true rfl, Nat.le_of_ble_eq_true rfl⟩) (fun x2 M1 => ?_)
      refine zk_cvm (pc := 32) (k' := 0) (n' := 0) B rfl rfl (Nat.le_of_ble_eq_true rfl) (Nat.le_of_ble_eq_true rfl) (fun b hb => zr_V B hR kV_yX0_changeRule km_7_107 kx_0 (gDesk_s (gTextReader_t1 hG)) [.int p0, .int x2] rfl rfl (Nat.le_of_ble_eq_true rfl) dX7_readRuleValue_32 (m_Desk_changeRule hX (gTextReader_t1 hG) p0 x2 M1 b hb) ⟨Nat.le_of_ble_eq_true rfl, Nat.le_of_ble_eq_true rfl⟩ ⟨Nat.le_of_ble_eq_true rfl, Nat.le_of_ble_eq_true rfl⟩) (fun M3 => ?_)
      exact zk_vret (pc := 35) B dX7_readRuleValue_35 rfl (Nat.le_of_ble_eq_true rfl) (Nat.le_of_ble_eq_true rfl) rfl
set_option maxHeartbeats 4000000 in
set_option maxRecDepth 100000 in
theorem m_TextReader_readTaxi {X : z_X} (hX : z_ok X) {G : z_Gr} {o : Nat} (hG : g_Sys G o) (M : z_Mem) (b : z_Mem) (h : F_TextReader_readTaxi o M = some b) : z_Ct X yX7_readTaxi cX7_readTaxi 5 none ({ frames := 3, cells := 0, slots := 0, locals := 66 } : Room) [.ref (o + 504)] G M (fun o9 G9 M9 => G9 = G ∧ (o9, M9) = z_cvm b) := by
  refine z_enter hX (by decide) (Nat.le_of_ble_eq_true rfl) h (fun F B hR => ?_)
  have J68 : ∀ (v1 : Int32) (v2 : Int32) (v3 : Int32) (v4 : Int32) (M : z_Mem), z_K X F 5 0 0 G z_cvm b 0 0 68 [(0, .ref (o + 504)), (1, .int v1), (2, .int v2), (3, .int v3), (4, .int v4)] [] M (F_TextReader_readTaxi_J68 o v1 v2 v3 v4 M) := by
    intro v1 v2 v3 v4 M
    unfold F_TextReader_readTaxi_J68
    refine zk_aload_n (pc := 68) B dX7_readTaxi_68 0 rfl rfl ?_
    refine zk_getr (pc := 69) B kx_7 (gTextReader_s hG) 2 (by decide) kf_7_25 rfl (gTextReader_f2 hG) dX7_readTaxi_69 ?_
    refine zk_cvm (pc := 72) (k' := 0) (n' := 0) B rfl rfl (Nat.le_of_ble_eq_true rfl) (Nat.le_of_ble_eq_true rfl) (fun b hb => zr_V B hR kV_yX8_next km_7_93 kx_8 (gTokens_s hG) [] rfl rfl (Nat.le_of_ble_eq_true rfl) dX7_readTaxi_72 (m_Tokens_next hX hG M b hb) ⟨Nat.le_of_ble_eq_true rfl, Nat.le_of_ble_eq_true rfl⟩ ⟨Nat.le_of_ble_eq_true rfl, Nat.le_of_ble_eq_true rfl⟩) (fun M10 => ?_)
    refine zk_aload_n (pc := 75) B dX7_readTaxi_75 0 rfl rfl ?_
    refine zk_getr (pc := 76) B kx_7 (gTextReader_s hG) 1 (by decide) kf_7_21 rfl (gTextReader_f1 hG) dX7_readTaxi_76 ?_
    refine zk_geti (pc := 79) B kx_0 (gDesk_s (gTextReader_t1 hG)) 3 (by decide) kf_7_62 rfl dX7_readTaxi_79 ?_
    refine zk_if_lt (tgt := 132) (pc := 82) B dX7_readTaxi_82 (by decide) (fun _ => ?_) (fun _ => ?_)
    · exact zk_vret (pc := 132) B dX7_readTaxi_132 rfl (Nat.le_of_ble_eq_true rfl) (Nat.le_of_ble_eq_true rfl) rfl
    · refine zk_aload_n (pc := 85) B dX7_readTaxi_85 0 rfl rfl ?_
      refine zk_getr (pc := 86) B kx_7 (gTextReader_s hG) 1 (by decide) kf_7_21 rfl (gTextReader_f1 hG) dX7_readTaxi_86 ?_
      refine zk_geti (pc := 89) B kx_0 (gDesk_s (gTextReader_t1 hG)) 3 (by decide) kf_7_62 rfl dX7_readTaxi_89 ?_
      refine zk_iconst (v := 4) (pc := 92) B dX7_readTaxi_92 (by decide) ?_
      refine zk_icmp_ge (tgt := 132) (pc := 93) B dX7_readTaxi_93 (by decide) (fun _ => ?_) (fun _ => ?_)
      · exact zk_vret (pc := 132) B dX7_readTaxi_132 rfl (Nat.le_of_ble_eq_true rfl) (Nat.le_of_ble_eq_true rfl) rfl
      · refine zk_aload_n (pc := 96) B dX7_readTaxi_96 0 rfl rfl ?_
        refine zk_getr (pc := 97) B kx_7 (gTextReader_s hG) 1 (by decide) kf_7_21 rfl (gTextReader_f1 hG) dX7_readTaxi_97 ?_
        refine zk_getr (pc := 100) B kx_0 (gDesk_s (gTextReader_t1 hG)) 6 (by decide) kf_7_111 rfl (gDesk_f6 (gTextReader_t1 hG)) dX7_readTaxi_100 ?_
        refine zk_aload_n (pc := 103) B dX7_readTaxi_103 0 rfl rfl ?_
        refine zk_getr (pc := 104) B kx_7 (gTextReader_s hG) 1 (by decide) kf_7_21 rfl (gTextReader_f1 hG) dX7_readTaxi_104 ?_
        refine zk_geti (pc := 107) B kx_0 (gDesk_s (gTextReader_t1 hG)) 3 (by decide) kf_7_62 rfl dX7_readTaxi_107 ?_
        refine zk_aald (pc := 110) B (gDesk_t6 (gTextReader_t1 hG)) (by decide) (by decide) (fun h12 => gDesk_e6 (gTextReader_t1 hG) _ (z_lt h12)) dX7_readTaxi_110 (fun h12 => zk_lr (fun t11 h12e => ?_))
        have ht11 : g_Taxi G t11 := by rw [h12e]; exact gDesk_k6 (gTextReader_t1 hG) _ (z_lt h12)
        refine zk_iload_n (pc := 111) B dX7_readTaxi_111 1 rfl rfl ?_
        refine zk_iload_n (pc := 112) B dX7_readTaxi_112 2 rfl rfl ?_
        refine zk_iload_n (pc := 113) B dX7_readTaxi_113 3 rfl rfl ?_
        refine zk_iload (pc := 114) B dX7_readTaxi_114 4 rfl ?_
        refine zk_cvm (pc := 116) (k' := 0) (n' := 0) B rfl rfl (Nat.le_of_ble_eq_true rfl) (Nat.le_of_ble_eq_true rfl) (fun b hb => zr_V B hR kV_yX6_startShift km_7_115 kx_6 (gTaxi_s ht11) [.int v1, .int v2, .int v3, .int v4] rfl rfl (Nat.le_of_ble_eq_true rfl) dX7_readTaxi_116 (m_Taxi_startShift hX ht11 v1 v2 v3 v4 M10 b hb) ⟨Nat.le_of_ble_eq_true rfl, Nat.le_of_ble_eq_true rfl⟩ ⟨Nat.le_of_ble_eq_true rfl, Nat.le_of_ble_eq_true rfl⟩) (fun M13 => ?_)
        refine zk_aload_n (pc := 119) B dX7_readTaxi_119 0 rfl rfl ?_
        refine zk_getr (pc := 120) B kx_7 (gTextReader_s hG) 1 (by decide) kf_7_21 rfl (gTextReader_f1 hG) dX7_readTaxi_120 ?_
        refine zk_dup (pc := 123) B dX7_readTaxi_123 rfl ?_
        refine zk_geti (pc := 124) B kx_0 (gDesk_s (gTextReader_t1 hG)) 3 (by decide) kf_7_62 rfl dX7_readTaxi_124 ?_
        refine zk_iconst (v := 1) (pc := 127) B dX7_readTaxi_127 (by decide) ?_
        refine zk_iadd (pc := 128) B dX7_readTaxi_128 ?_
        refine zk_puti (pc := 129) B kx_0 (gDesk_s (gTextReader_t1 hG)) 3 (by decide) kf_7_62 rfl rfl rfl rfl dX7_readTaxi_129 ?_
        refine zk_lm (fun M14 => ?_)
        exact zk_vret (pc := 132) B dX7_readTaxi_132 rfl (Nat.le_of_ble_eq_true rfl) (Nat.le_of_ble_eq_true rfl) rfl
  show z_K X F 5 0 0 G z_cvm b 0 0 0 [(0, .ref (o + 504))] [] M (F_TextReader_readTaxi o M)
  unfold F_TextReader_readTaxi
  refine zk_aload_n (pc := 0) B dX7_readTaxi_0 0 rfl rfl ?_
  refine zk_getr (pc := 1) B kx_7 (gTextReader_s hG) 2 (by decide) kf_7_25 rfl (gTextReader_f2 hG) dX7_readTaxi_1 ?_
  refine zk_iconst (v := 1) (pc := 4) B dX7_readTaxi_4 (by decide) ?_
  refine zk_bipush (v := 6) (pc := 5) B dX7_readTaxi_5 (by decide) ?_
  refine zk_cim (pc := 7) (k' := 0) (n' := 0) B rfl rfl (Nat.le_of_ble_eq_true rfl) (Nat.le_of_ble_eq_true rfl) (fun b hb => zr_V B hR kV_yX8_takeNumber km_7_38 kx_8 (gTokens_s hG) [.int 1, .int 6] rfl rfl (Nat.le_of_ble_eq_true rfl) dX7_readTaxi_7 (m_Tokens_takeNumber hX hG 1 6 M b hb) ⟨Nat.le_of_ble_eq_true rfl, Nat.le_of_ble_eq_true rfl⟩ ⟨Nat.le_of_ble_eq_true rfl, Nat.le_of_ble_eq_true rfl⟩) (fun x2 M1 => ?_)
  refine zk_istore_n (loc' := [(1, .int x2), (0, .ref (o + 504))]) (pc := 10) B dX7_readTaxi_10 rfl (by decide) rfl ?_
  refine zk_aload_n (pc := 11) B dX7_readTaxi_11 1 rfl rfl ?_
  refine zk_getr (pc := 12) B kx_7 (gTextReader_s hG) 2 (by decide) kf_7_25 rfl (gTextReader_f2 hG) dX7_readTaxi_12 ?_
  refine zk_iconst (v := 0) (pc := 15) B dX7_readTaxi_15 (by decide) ?_
  refine zk_aload_n (pc := 16) B dX7_readTaxi_16 1 rfl rfl ?_
  refine zk_getr (pc := 17) B kx_7 (gTextReader_s hG) 0 (by decide) kf_7_12 rfl (gTextReader_f0 hG) dX7_readTaxi_17 ?_
  refine zk_geti (pc := 20) B kx_9 (gTown_s (gTextReader_t0 hG)) 0 (by decide) kf_7_84 rfl dX7_readTaxi_20 ?_
  refine zk_iconst (v := 1) (pc := 23) B dX7_readTaxi_23 (by decide) ?_
  refine zk_isub (pc := 24) B dX7_readTaxi_24 ?_
  refine zk_cim (pc := 25) (k' := 0) (n' := 0) B rfl rfl (Nat.le_of_ble_eq_true rfl) (Nat.le_of_ble_eq_true rfl) (fun b hb => zr_V B hR kV_yX8_takeNumber km_7_38 kx_8 (gTokens_s hG) [.int 0, .int ((M1.1 (o + 505) 0) - 1)] rfl rfl (Nat.le_of_ble_eq_true rfl) dX7_readTaxi_25 (m_Tokens_takeNumber hX hG 0 ((M1.1 (o + 505) 0) - 1) M1 b hb) ⟨Nat.le_of_ble_eq_true rfl, Nat.le_of_ble_eq_true rfl⟩ ⟨Nat.le_of_ble_eq_true rfl, Nat.le_of_ble_eq_true rfl⟩) (fun x4 M3 => ?_)
  refine zk_istore_n (loc' := [(2, .int x4), (1, .int x2), (0, .ref (o + 504))]) (pc := 28) B dX7_readTaxi_28 rfl (by decide) rfl ?_
  refine zk_aload_n (pc := 29) B dX7_readTaxi_29 2 rfl rfl ?_
  refine zk_getr (pc := 30) B kx_7 (gTextReader_s hG) 2 (by decide) kf_7_25 rfl (gTextReader_f2 hG) dX7_readTaxi_30 ?_
  refine zk_iconst (v := 0) (pc := 33) B dX7_readTaxi_33 (by decide) ?_
  refine zk_sipush (v := 2879) (pc := 34) B dX7_readTaxi_34 (by decide) ?_
  refine zk_cim (pc := 37) (k' := 0) (n' := 0) B rfl rfl (Nat.le_of_ble_eq_true rfl) (Nat.le_of_ble_eq_true rfl) (fun b hb => zr_V B hR kV_yX8_takeNumber km_7_38 kx_8 (gTokens_s hG) [.int 0, .int 2879] rfl rfl (Nat.le_of_ble_eq_true rfl) dX7_readTaxi_37 (m_Tokens_takeNumber hX hG 0 2879 M3 b hb) ⟨Nat.le_of_ble_eq_true rfl, Nat.le_of_ble_eq_true rfl⟩ ⟨Nat.le_of_ble_eq_true rfl, Nat.le_of_ble_eq_true rfl⟩) (fun x6 M5 => ?_)
  refine zk_istore_n (loc' := [(3, .int x6), (2, .int x4), (1, .int x2), (0, .ref (o + 504))]) (pc := 40) B dX7_readTaxi_40 rfl (by decide) rfl ?_
  refine zk_aload_n (pc := 41) B dX7_readTaxi_41 3 rfl rfl ?_
  refine zk_getr (pc := 42) B kx_7 (gTextReader_s hG) 2 (by decide) kf_7_25 rfl (gTextReader_f2 hG) dX7_readTaxi_42 ?_
  refine zk_iconst (v := 0) (pc := 45) B dX7_readTaxi_45 (by decide) ?_
  refine zk_sipush (v := 2879) (pc := 46) B dX7_readTaxi_46 (by decide) ?_
  refine zk_cim (pc := 49) (k' := 0) (n' := 0) B rfl rfl (Nat.le_of_ble_eq_true rfl) (Nat.le_of_ble_eq_true rfl) (fun b hb => zr_V B hR kV_yX8_checkNumber km_7_87 kx_8 (gTokens_s hG) [.int 0, .int 2879] rfl rfl (Nat.le_of_ble_eq_true rfl) dX7_readTaxi_49 (m_Tokens_checkNumber hX hG 0 2879 M5 b hb) ⟨Nat.le_of_ble_eq_true rfl, Nat.le_of_ble_eq_true rfl⟩ ⟨Nat.le_of_ble_eq_true rfl, Nat.le_of_ble_eq_true rfl⟩) (fun x8 M7 => ?_)
  refine zk_istore (loc' := [(4, .int x8), (3, .int x6), (2, .int x4), (1, .int x2), (0, .ref (o + 504))]) (pc := 52) B dX7_readTaxi_52 (by decide) rfl ?_
  refine zk_iload (pc := 54) B dX7_readTaxi_54 0 rfl ?_
  refine zk_iload_n (pc := 56) B dX7_readTaxi_56 1 rfl rfl ?_
  refine zk_icmp_gt (tgt := 68) (pc := 57) B dX7_readTaxi_57 (by decide) (fun _ => ?_) (fun _ => ?_)
  · refine zk_sub [4, 3, 2, 1, 0] rfl ?_
    exact J68 x2 x4 x6 x8 M7
  · refine zk_aload_n (pc := 60) B dX7_readTaxi_60 4 rfl rfl ?_
    refine zk_getr (pc := 61) B kx_7 (gTextReader_s hG) 2 (by decide) kf_7_25 rfl (gTextReader_f2 hG) dX7_readTaxi_61 ?_
    refine zk_iconst (v := 4) (pc := 64) B dX7_readTaxi_64 (by decide) ?_
    refine zk_cvm (pc := 65) (k' := 0) (n' := 0) B rfl rfl (Nat.le_of_ble_eq_true rfl) (Nat.le_of_ble_eq_true rfl) (fun b hb => zr_V B hR kV_yX8_fail km_7_66 kx_8 (gTokens_s hG) [.int 4] rfl rfl (Nat.le_of_ble_eq_true rfl) dX7_readTaxi_65 (m_Tokens_fail hX hG 4 M7 b hb) ⟨Nat.le_of_ble_eq_true rfl, Nat.le_of_ble_eq_true rfl⟩ ⟨Nat.le_of_ble_eq_true rfl, Nat.le_of_ble_eq_true rfl⟩) (fun M9 => ?_)
    refine zk_sub [4, 3, 2, 1, 0] rfl ?_
    exact J68 x2 x4 x6 x8 M9
set_option maxHeartbeats 4000000 in
set_option maxRecDepth 100000 in
theorem m_TextReader_readClause {X : z_X} (hX : z_ok X) {G : z_Gr} {o : Nat} (hG : g_Sys G o) (M : z_Mem) (b : z_Mem) (h : F_TextReader_readClause o M = some b) : z_Ct X yX7_readClause cX7_readClause 1 none ({ frames := 4, cells := 0, slots := 0, locals := 90 } : Room) [.ref (o + 504)] G M (fun o9 G9 M9 => G9 = G ∧ (o9, M9) = z_cvm b) := by
  refine z_enter hX (by decide) (Nat.le_of_ble_eq_true rfl) h (fun F B hR => ?_)
  have J167 : ∀  (M : z_Mem), z_K X F 1 0 0 G z_cvm b 0 0 167 [(0, .ref (o + 504))] [] M (F_TextReader_readClause_J167 o M) := by
    intro  M
    unfold F_TextReader_readClause_J167
    refine zk_aload_n (pc := 167) B dX7_readClause_167 0 rfl rfl ?_
    refine zk_getr (pc := 168) B kx_7 (gTextReader_s hG) 2 (by decide) kf_7_25 rfl (gTextReader_f2 hG) dX7_readClause_168 ?_
    refine zk_bipush (v := 59) (pc := 171) B dX7_readClause_171 (by decide) ?_
    refine zk_cvm (pc := 173) (k' := 0) (n' := 0) B rfl rfl (Nat.le_of_ble_eq_true rfl) (Nat.le_of_ble_eq_true rfl) (fun b hb => zr_V B hR kV_yX8_takeSign km_7_44 kx_8 (gTokens_s hG) [.int 59] rfl rfl (Nat.le_of_ble_eq_true rfl) dX7_readClause_173 (m_Tokens_takeSign hX hG 59 M b hb) ⟨Nat.le_of_ble_eq_true rfl, Nat.le_of_ble_eq_true rfl⟩ ⟨Nat.le_of_ble_eq_true rfl, Nat.le_of_ble_eq_true rfl⟩) (fun M19 => ?_)
    exact zk_vret (pc := 176) B dX7_readClause_176 rfl (Nat.le_of_ble_eq_true rfl) (Nat.le_of_ble_eq_true rfl) rfl
  have J30 : ∀  (M : z_Mem), z_K X F 1 0 0 G z_cvm b 0 0 30 [(0, .ref (o + 504))] [] M (F_TextReader_readClause_J30 o M) := by
    intro  M
    unfold F_TextReader_readClause_J30
    refine zk_aload_n (pc := 30) B dX7_readClause_30 0 rfl rfl ?_
    refine zk_getr (pc := 31) B kx_7 (gTextReader_s hG) 2 (by decide) kf_7_25 rfl (gTextReader_f2 hG) dX7_readClause_31 ?_
    refine zk_iconst (v := 1) (pc := 34) B dX7_readClause_34 (by decide) ?_
    refine zk_iconst (v := 5) (pc := 35) B dX7_readClause_35 (by decide) ?_
    refine zk_cim (pc := 36) (k' := 0) (n' := 0) B rfl rfl (Nat.le_of_ble_eq_true rfl) (Nat.le_of_ble_eq_true rfl) (fun b hb => zr_V B hR kV_yX8_takeWord km_7_34 kx_8 (gTokens_s hG) [.int 1, .int 5] rfl rfl (Nat.le_of_ble_eq_true rfl) dX7_readClause_36 (m_Tokens_takeWord hX hG 1 5 M b hb) ⟨Nat.le_of_ble_eq_true rfl, Nat.le_of_ble_eq_true rfl⟩ ⟨Nat.le_of_ble_eq_true rfl, Nat.le_of_ble_eq_true rfl⟩) (fun x4 M3 => ?_)
    refine zk_if (fun hs => zk_tin (v := 1) (tgt := 72) (pc := 39) B dX7_readClause_39 hs (by decide) (by decide) rfl (by decide) ?_) (fun hn39_0 => ?_)
    · refine zk_aload_n (pc := 72) B dX7_readClause_72 0 rfl rfl ?_
      refine zk_cvm (pc := 73) (k' := 0) (n' := 0) B rfl rfl (Nat.le_of_ble_eq_true rfl) (Nat.le_of_ble_eq_true rfl) (fun b hb => zr_V B hR kV_yX7_readRoad km_7_69 kx_7 (gTextReader_s hG) [] rfl rfl (Nat.le_of_ble_eq_true rfl) dX7_readClause_73 (m_TextReader_readRoad hX hG M3 b hb) ⟨Nat.le_of_ble_eq_true rfl, Nat.le_of_ble_eq_true rfl⟩ ⟨Nat.le_of_ble_eq_true rfl, Nat.le_of_ble_eq_true rfl⟩) (fun M18 => ?_)
      refine zk_goto (tgt := 167) (pc := 76) B dX7_readClause_76 (by decide) ?_
      exact J167 M18
    · refine zk_if (fun hs => zk_tin (v := 2) (tgt := 79) (pc := 39) B dX7_readClause_39 hs (by decide) (by decide) rfl (by decide) ?_) (fun hn39_1 => ?_)
      · refine zk_aload_n (pc := 79) B dX7_readClause_79 0 rfl rfl ?_
        refine zk_getr (pc := 80) B kx_7 (gTextReader_s hG) 1 (by decide) kf_7_21 rfl (gTextReader_f1 hG) dX7_readClause_80 ?_
        refine zk_aload_n (pc := 83) B dX7_readClause_83 0 rfl rfl ?_
        refine zk_getr (pc := 84) B kx_7 (gTextReader_s hG) 2 (by decide) kf_7_25 rfl (gTextReader_f2 hG) dX7_readClause_84 ?_
        refine zk_iconst (v := 0) (pc := 87) B dX7_readClause_87 (by decide) ?_
        refine zk_sipush (v := 9999) (pc := 88) B dX7_readClause_88 (by decide) ?_
        refine zk_cim (pc := 91) (k' := 0) (n' := 0) B rfl rfl (Nat.le_of_ble_eq_true rfl) (Nat.le_of_ble_eq_true rfl) (fun b hb => zr_V B hR kV_yX8_takeNumber km_7_38 kx_8 (gTokens_s hG) [.int 0, .int 9999] rfl rfl (Nat.le_of_ble_eq_true rfl) dX7_readClause_91 (m_Tokens_takeNumber hX hG 0 9999 M3 b hb) ⟨Nat.le_of_ble_eq_true rfl, Nat.le_of_ble_eq_true rfl⟩ ⟨Nat.le_of_ble_eq_true rfl, Nat.le_of_ble_eq_true rfl⟩) (fun x13 M12 => ?_)
        refine zk_puti (pc := 94) B kx_0 (gDesk_s (gTextReader_t1 hG)) 1 (by decide) kf_7_72 rfl rfl rfl rfl dX7_readClause_94 ?_
        refine zk_lm (fun M14 => ?_)
        refine zk_aload_n (pc := 97) B dX7_readClause_97 0 rfl rfl ?_
        refine zk_getr (pc := 98) B kx_7 (gTextReader_s hG) 1 (by decide) kf_7_21 rfl (gTextReader_f1 hG) dX7_readClause_98 ?_
        refine zk_aload_n (pc := 101) B dX7_readClause_101 0 rfl rfl ?_
        refine zk_getr (pc := 102) B kx_7 (gTextReader_s hG) 2 (by decide) kf_7_25 rfl (gTextReader_f2 hG) dX7_readClause_102 ?_
        refine zk_iconst (v := 0) (pc := 105) B dX7_readClause_105 (by decide) ?_
        refine zk_sipush (v := 999) (pc := 106) B dX7_readClause_106 (by decide) ?_
        refine zk_cim (pc := 109) (k' := 0) (n' := 0) B rfl rfl (Nat.le_of_ble_eq_true rfl) (Nat.le_of_ble_eq_true rfl) (fun b hb => zr_V B hR kV_yX8_takeNumber km_7_38 kx_8 (gTokens_s hG) [.int 0, .int 999] rfl rfl (Nat.le_of_ble_eq_true rfl) dX7_readClause_109 (m_Tokens_takeNumber hX hG 0 999 M14 b hb) ⟨Nat.le_of_ble_eq_true rfl, Nat.le_of_ble_eq_true rfl⟩ ⟨Nat.le_of_ble_eq_true rfl, Nat.le_of_ble_eq_true rfl⟩) (fun x16 M15 => ?_)
        refine zk_puti (pc := 112) B kx_0 (gDesk_s (gTextReader_t1 hG)) 2 (by decide) kf_7_75 rfl rfl rfl rfl dX7_readClause_112 ?_
        refine zk_lm (fun M17 => ?_)
        refine zk_goto (tgt := 167) (pc := 115) B dX7_readClause_115 (by decide) ?_
        exact J167 M17
      · refine zk_if (fun hs => zk_tin (v := 3) (tgt := 118) (pc := 39) B dX7_readClause_39 hs (by decide) (by decide) rfl (by decide) ?_) (fun hn39_2 => ?_)
        · refine zk_aload_n (pc := 118) B dX7_readClause_118 0 rfl rfl ?_
          refine zk_bipush (v := 7) (pc := 119) B dX7_readClause_119 (by decide) ?_
          refine zk_aload_n (pc := 121) B dX7_readClause_121 0 rfl rfl ?_
          refine zk_getr (pc := 122) B kx_7 (gTextReader_s hG) 2 (by decide) kf_7_25 rfl (gTextReader_f2 hG) dX7_readClause_122 ?_
          refine zk_iconst (v := 2) (pc := 125) B dX7_readClause_125 (by decide) ?_
          refine zk_iconst (v := 4) (pc := 126) B dX7_readClause_126 (by decide) ?_
          refine zk_cim (pc := 127) (k' := 0) (n' := 0) B rfl rfl (Nat.le_of_ble_eq_true rfl) (Nat.le_of_ble_eq_true rfl) (fun b hb => zr_V B hR kV_yX8_takeNumber km_7_38 kx_8 (gTokens_s hG) [.int 2, .int 4] rfl rfl (Nat.le_of_ble_eq_true rfl) dX7_readClause_127 (m_Tokens_takeNumber hX hG 2 4 M3 b hb) ⟨Nat.le_of_ble_eq_true rfl, Nat.le_of_ble_eq_true rfl⟩ ⟨Nat.le_of_ble_eq_true rfl, Nat.le_of_ble_eq_true rfl⟩) (fun x10 M9 => ?_)
          refine zk_iadd (pc := 130) B dX7_readClause_130 ?_
          refine zk_iconst (v := 2) (pc := 131) B dX7_readClause_131 (by decide) ?_
          refine zk_isub (pc := 132) B dX7_readClause_132 ?_
          refine zk_cvm (pc := 133) (k' := 0) (n' := 0) B rfl rfl (Nat.le_of_ble_eq_true rfl) (Nat.le_of_ble_eq_true rfl) (fun b hb => zr_V B hR kV_yX7_readRuleValue km_7_78 kx_7 (gTextReader_s hG) [.int ((7 + x10) - 2)] rfl rfl (Nat.le_of_ble_eq_true rfl) dX7_readClause_133 (m_TextReader_readRuleValue hX hG ((7 + x10) - 2) M9 b hb) ⟨Nat.le_of_ble_eq_true rfl, Nat.le_of_ble_eq_true rfl⟩ ⟨Nat.le_of_ble_eq_true rfl, Nat.le_of_ble_eq_true rfl⟩) (fun M11 => ?_)
          refine zk_goto (tgt := 167) (pc := 136) B dX7_readClause_136 (by decide) ?_
          exact J167 M11
        · refine zk_if (fun hs => zk_tin (v := 4) (tgt := 139) (pc := 39) B dX7_readClause_39 hs (by decide) (by decide) rfl (by decide) ?_) (fun hn39_3 => ?_)
          · refine zk_aload_n (pc := 139) B dX7_readClause_139 0 rfl rfl ?_
            refine zk_aload_n (pc := 140) B dX7_readClause_140 0 rfl rfl ?_
            refine zk_getr (pc := 141) B kx_7 (gTextReader_s hG) 2 (by decide) kf_7_25 rfl (gTextReader_f2 hG) dX7_readClause_141 ?_
            refine zk_bipush (v := 14) (pc := 144) B dX7_readClause_144 (by decide) ?_
            refine zk_bipush (v := 20) (pc := 146) B dX7_readClause_146 (by decide) ?_
            refine zk_cim (pc := 148) (k' := 0) (n' := 0) B rfl rfl (Nat.le_of_ble_eq_true rfl) (Nat.le_of_ble_eq_true rfl) (fun b hb => zr_V B hR kV_yX8_takeWord km_7_34 kx_8 (gTokens_s hG) [.int 14, .int 20] rfl rfl (Nat.le_of_ble_eq_true rfl) dX7_readClause_148 (m_Tokens_takeWord hX hG 14 20 M3 b hb) ⟨Nat.le_of_ble_eq_true rfl, Nat.le_of_ble_eq_true rfl⟩ ⟨Nat.le_of_ble_eq_true rfl, Nat.le_of_ble_eq_true rfl⟩) (fun x7 M6 => ?_)
            refine zk_bipush (v := 14) (pc := 151) B dX7_readClause_151 (by decide) ?_
            refine zk_isub (pc := 153) B dX7_readClause_153 ?_
            refine zk_cvm (pc := 154) (k' := 0) (n' := 0) B rfl rfl (Nat.le_of_ble_eq_true rfl) (Nat.le_of_ble_eq_true rfl) (fun b hb => zr_V B hR kV_yX7_readRuleValue km_7_78 kx_7 (gTextReader_s hG) [.int (x7 - 14)] rfl rfl (Nat.le_of_ble_eq_true rfl) dX7_readClause_154 (m_TextReader_readRuleValue hX hG (x7 - 14) M6 b hb) ⟨Nat.le_of_ble_eq_true rfl, Nat.le_of_ble_eq_true rfl⟩ ⟨Nat.le_of_ble_eq_true rfl, Nat.le_of_ble_eq_true rfl⟩) (fun M8 => ?_)
            refine zk_goto (tgt := 167) (pc := 157) B dX7_readClause_157 (by decide) ?_
            exact J167 M8
          · refine zk_if (fun hs => zk_tin (v := 5) (tgt := 160) (pc := 39) B dX7_readClause_39 hs (by decide) (by decide) rfl (by decide) ?_) (fun hn39_4 => ?_)
            · refine zk_aload_n (pc := 160) B dX7_readClause_160 0 rfl rfl ?_
              refine zk_cvm (pc := 161) (k' := 0) (n' := 0) B rfl rfl (Nat.le_of_ble_eq_true rfl) (Nat.le_of_ble_eq_true rfl) (fun b hb => zr_V B hR kV_yX7_readTaxi km_7_81 kx_7 (gTextReader_s hG) [] rfl rfl (Nat.le_of_ble_eq_true rfl) dX7_readClause_161 (m_TextReader_readTaxi hX hG M3 b hb) ⟨Nat.le_of_ble_eq_true rfl, Nat.le_of_ble_eq_true rfl⟩ ⟨Nat.le_of_ble_eq_true rfl, Nat.le_of_ble_eq_true rfl⟩) (fun M5 => ?_)
              refine zk_goto (tgt := 167) (pc := 164) B dX7_readClause_164 (by decide) ?_
              exact J167 M5
            · refine zk_tout (pc := 39)  (tgt := 167) B dX7_readClause_39 (by have q0 := z_ne hn39_0 (z := 1) (by decide); have q1 := z_ne hn39_1 (z := 2) (by decide); have q2 := z_ne hn39_2 (z := 3) (by decide); have q3 := z_ne hn39_3 (z := 4) (by decide); have q4 := z_ne hn39_4 (z := 5) (by decide); omega) (by decide) ?_
              exact J167 M3
  show z_K X F 1 0 0 G z_cvm b 0 0 0 [(0, .ref (o + 504))] [] M (F_TextReader_readClause o M)
  unfold F_TextReader_readClause
  refine zk_aload_n (pc := 0) B dX7_readClause_0 0 rfl rfl ?_
  refine zk_getr (pc := 1) B kx_7 (gTextReader_s hG) 2 (by decide) kf_7_25 rfl (gTextReader_f2 hG) dX7_readClause_1 ?_
  refine zk_iconst (v := 5) (pc := 4) B dX7_readClause_4 (by decide) ?_
  refine zk_cpi (pc := 5) (k' := 0) (n' := 0) B rfl rfl (Nat.le_of_ble_eq_true rfl) (Nat.le_of_ble_eq_true rfl) (fun b hb => zr_V B hR kV_yX8_isWord km_7_58 kx_8 (gTokens_s hG) [.int 5] rfl rfl (Nat.le_of_ble_eq_true rfl) dX7_readClause_5 (m_Tokens_isWord hX hG 5 M b hb) ⟨Nat.le_of_ble_eq_true rfl, Nat.le_of_ble_eq_true rfl⟩ ⟨Nat.le_of_ble_eq_true rfl, Nat.le_of_ble_eq_true rfl⟩) (fun x1 _ => ?_)
  refine zk_if_eq (tgt := 30) (pc := 8) B dX7_readClause_8 (by decide) (fun _ => ?_) (fun _ => ?_)
  · exact J30 M
  · refine zk_aload_n (pc := 11) B dX7_readClause_11 0 rfl rfl ?_
    refine zk_getr (pc := 12) B kx_7 (gTextReader_s hG) 1 (by decide) kf_7_21 rfl (gTextReader_f1 hG) dX7_readClause_12 ?_
    refine zk_geti (pc := 15) B kx_0 (gDesk_s (gTextReader_t1 hG)) 3 (by decide) kf_7_62 rfl dX7_readClause_15 ?_
    refine zk_iconst (v := 4) (pc := 18) B dX7_readClause_18 (by decide) ?_
    refine zk_icmp_lt (tgt := 30) (pc := 19) B dX7_readClause_19 (by decide) (fun _ => ?_) (fun _ => ?_)
    · exact J30 M
    · refine zk_aload_n (pc := 22) B dX7_readClause_22 0 rfl rfl ?_
      refine zk_getr (pc := 23) B kx_7 (gTextReader_s hG) 2 (by decide) kf_7_25 rfl (gTextReader_f2 hG) dX7_readClause_23 ?_
      refine zk_iconst (v := 3) (pc := 26) B dX7_readClause_26 (by decide) ?_
      refine zk_cvm (pc := 27) (k' := 0) (n' := 0) B rfl rfl (Nat.le_of_ble_eq_true rfl) (Nat.le_of_ble_eq_true rfl) (fun b hb => zr_V B hR kV_yX8_fail km_7_66 kx_8 (gTokens_s hG) [.int 3] rfl rfl (Nat.le_of_ble_eq_true rfl) dX7_readClause_27 (m_Tokens_fail hX hG 3 M b hb) ⟨Nat.le_of_ble_eq_true rfl, Nat.le_of_ble_eq_true rfl⟩ ⟨Nat.le_of_ble_eq_true rfl, Nat.le_of_ble_eq_true rfl⟩) (fun M2 => ?_)
      exact J30 M2
set_option maxHeartbeats 4000000 in
set_option maxRecDepth 100000 in
theorem m_Town_shorten {X : z_X} (hX : z_ok X) {G : z_Gr} {a : Nat} (ha : g_Town G a) (p0 : Int32) (p1 : Int32) (p2 : Int32) (M : z_Mem) (b : z_Mem) (h : F_Town_shorten a p0 p1 p2 M = some b) : z_Ct X yX9_shorten cX9_shorten 7 none ({ frames := 2, cells := 0, slots := 0, locals := 43 } : Room) [.ref a, .int p0, .int p1, .int p2] G M (fun o9 G9 M9 => G9 = G ∧ (o9, M9) = z_cvm b) := by
  refine z_enter hX (by decide) (Nat.le_of_ble_eq_true rfl) h (fun F B hR => ?_)
  have J61 : ∀ (v1 : Int32) (v2 : Int32) (v4 : Int32) (v5 : Int32) (M : z_Mem), z_K X F 7 0 0 G z_cvm b 0 0 61 [(0, .ref a), (1, .int v1), (2, .int v2), (4, .int v4), (5, .int v5)] [] M (F_Town_shorten_J61 a v1 v2 v4 v5 M) := by
    intro v1 v2 v4 v5 M
    unfold F_Town_shorten_J61
    refine zk_aload_n (pc := 61) B dX9_shorten_61 0 rfl rfl ?_
    refine zk_getr (pc := 62) B kx_9 (gTown_s ha) 2 (by decide) kf_9_9 rfl (gTown_f2 ha) dX9_shorten_62 ?_
    refine zk_iload_n (pc := 65) B dX9_shorten_65 1 rfl rfl ?_
    refine zk_bipush (v := 8) (pc := 66) B dX9_shorten_66 (by decide) ?_
    refine zk_imul (pc := 68) B dX9_shorten_68 ?_
    refine zk_iload_n (pc := 69) B dX9_shorten_69 2 rfl rfl ?_
    refine zk_iadd (pc := 70) B dX9_shorten_70 ?_
    refine zk_iload (pc := 71) B dX9_shorten_71 3 rfl ?_
    refine zk_iload (pc := 73) B dX9_shorten_73 4 rfl ?_
    refine zk_iadd (pc := 75) B dX9_shorten_75 ?_
    refine zk_iast (pc := 76) B (gTown_t2 ha) dX9_shorten_76 ?_
    refine zk_lm (fun M5 => ?_)
    exact zk_vret (pc := 77) B dX9_shorten_77 rfl (Nat.le_of_ble_eq_true rfl) (Nat.le_of_ble_eq_true rfl) rfl
  show z_K X F 7 0 0 G z_cvm b 0 0 0 [(0, .ref a), (1, .int p0), (2, .int p1), (3, .int p2)] [] M (F_Town_shorten a p0 p1 p2 M)
  unfold F_Town_shorten
  refine zk_aload_n (pc := 0) B dX9_shorten_0 0 rfl rfl ?_
  refine zk_iload_n (pc := 1) B dX9_shorten_1 1 rfl rfl ?_
  refine zk_iload_n (pc := 2) B dX9_shorten_2 3 rfl rfl ?_
  refine zk_cpi (pc := 3) (k' := 0) (n' := 0) B rfl rfl (Nat.le_of_ble_eq_true rfl) (Nat.le_of_ble_eq_true rfl) (fun b hb => zr_V B hR kV_yX9_wayMinutes km_9_30 kx_9 (gTown_s ha) [.int p0, .int p2] rfl rfl (Nat.le_of_ble_eq_true rfl) dX9_shorten_3 (m_Town_wayMinutes hX ha p0 p2 M b hb) ⟨Nat.le_of_ble_eq_true rfl, Nat.le_of_ble_eq_true rfl⟩ ⟨Nat.le_of_ble_eq_true rfl, Nat.le_of_ble_eq_true rfl⟩) (fun x1 _ => ?_)
  refine zk_istore (loc' := [(4, .int x1), (0, .ref a), (1, .int p0), (2, .int p1), (3, .int p2)]) (pc := 6) B dX9_shorten_6 (by decide) rfl ?_
  refine zk_aload_n (pc := 8) B dX9_shorten_8 1 rfl rfl ?_
  refine zk_iload_n (pc := 9) B dX9_shorten_9 4 rfl rfl ?_
  refine zk_iload_n (pc := 10) B dX9_shorten_10 3 rfl rfl ?_
  refine zk_cpi (pc := 11) (k' := 0) (n' := 0) B rfl rfl (Nat.le_of_ble_eq_true rfl) (Nat.le_of_ble_eq_true rfl) (fun b hb => zr_V B hR kV_yX9_wayMinutes km_9_30 kx_9 (gTown_s ha) [.int p2, .int p1] rfl rfl (Nat.le_of_ble_eq_true rfl) dX9_shorten_11 (m_Town_wayMinutes hX ha p2 p1 M b hb) ⟨Nat.le_of_ble_eq_true rfl, Nat.le_of_ble_eq_true rfl⟩ ⟨Nat.le_of_ble_eq_true rfl, Nat.le_of_ble_eq_true rfl⟩) (fun x2 _ => ?_)
  refine zk_istore (loc' := [(5, .int x2), (4, .int x1), (0, .ref a), (1, .int p0), (2, .int p1), (3, .int p2)]) (pc := 14) B dX9_shorten_14 (by decide) rfl ?_
  refine zk_iload (pc := 16) B dX9_shorten_16 1 rfl ?_
  refine zk_iconst (v := (-1)) (pc := 18) B dX9_shorten_18 (by decide) ?_
  refine zk_icmp_eq (tgt := 36) (pc := 19) B dX9_shorten_19 (by decide) (fun _ => ?_) (fun _ => ?_)
  · exact zk_vret (pc := 36) B dX9_shorten_36 rfl (Nat.le_of_ble_eq_true rfl) (Nat.le_of_ble_eq_true rfl) rfl
  · refine zk_iload (pc := 22) B dX9_shorten_22 0 rfl ?_
    refine zk_iconst (v := (-1)) (pc := 24) B dX9_shorten_24 (by decide) ?_
    refine zk_icmp_eq (tgt := 36) (pc := 25) B dX9_shorten_25 (by decide) (fun _ => ?_) (fun _ => ?_)
    · exact zk_vret (pc := 36) B dX9_shorten_36 rfl (Nat.le_of_ble_eq_true rfl) (Nat.le_of_ble_eq_true rfl) rfl
    · refine zk_iload_n (pc := 28) B dX9_shorten_28 3 rfl rfl ?_
      refine zk_iload_n (pc := 29) B dX9_shorten_29 4 rfl rfl ?_
      refine zk_cpi (pc := 30) (k' := 0) (n' := 0) B rfl rfl (Nat.le_of_ble_eq_true rfl) (Nat.le_of_ble_eq_true rfl) (fun b hb => zr_S B hR kS_yX9_hasPlaces km_9_22 [.int p0, .int p1] rfl rfl (Nat.le_of_ble_eq_true rfl) dX9_shorten_30 (m_Town_hasPlaces hX p0 p1 M b hb) ⟨Nat.le_of_ble_eq_true rfl, Nat.le_of_ble_eq_true rfl⟩ ⟨Nat.le_of_ble_eq_true rfl, Nat.le_of_ble_eq_true rfl⟩) (fun x3 _ => ?_)
      refine zk_if_ne (tgt := 37) (pc := 33) B dX9_shorten_33 (by decide) (fun _ => ?_) (fun _ => ?_)
      · refine zk_aload_n (pc := 37) B dX9_shorten_37 2 rfl rfl ?_
        refine zk_iload_n (pc := 38) B dX9_shorten_38 3 rfl rfl ?_
        refine zk_iload_n (pc := 39) B dX9_shorten_39 4 rfl rfl ?_
        refine zk_cpi (pc := 40) (k' := 0) (n' := 0) B rfl rfl (Nat.le_of_ble_eq_true rfl) (Nat.le_of_ble_eq_true rfl) (fun b hb => zr_V B hR kV_yX9_wayMinutes km_9_30 kx_9 (gTown_s ha) [.int p0, .int p1] rfl rfl (Nat.le_of_ble_eq_true rfl) dX9_shorten_40 (m_Town_wayMinutes hX ha p0 p1 M b hb) ⟨Nat.le_of_ble_eq_true rfl, Nat.le_of_ble_eq_true rfl⟩ ⟨Nat.le_of_ble_eq_true rfl, Nat.le_of_ble_eq_true rfl⟩) (fun x4 _ => ?_)
        refine zk_istore (loc' := [(6, .int x4), (5, .int x2), (4, .int x1), (0, .ref a), (1, .int p0), (2, .int p1), (3, .int p2)]) (pc := 43) B dX9_shorten_43 (by decide) rfl ?_
        refine zk_iload (pc := 45) B dX9_shorten_45 0 rfl ?_
        refine zk_iconst (v := (-1)) (pc := 47) B dX9_shorten_47 (by decide) ?_
        refine zk_icmp_eq (tgt := 61) (pc := 48) B dX9_shorten_48 (by decide) (fun _ => ?_) (fun _ => ?_)
        · refine zk_sub [3, 4, 5, 2, 1] rfl ?_
          exact J61 p0 p1 x1 x2 M
        · refine zk_iload (pc := 51) B dX9_shorten_51 2 rfl ?_
          refine zk_iload (pc := 53) B dX9_shorten_53 1 rfl ?_
          refine zk_iadd (pc := 55) B dX9_shorten_55 ?_
          refine zk_iload (pc := 56) B dX9_shorten_56 0 rfl ?_
          refine zk_icmp_ge (tgt := 77) (pc := 58) B dX9_shorten_58 (by decide) (fun _ => ?_) (fun _ => ?_)
          · exact zk_vret (pc := 77) B dX9_shorten_77 rfl (Nat.le_of_ble_eq_true rfl) (Nat.le_of_ble_eq_true rfl) rfl
          · refine zk_sub [3, 4, 5, 2, 1] rfl ?_
            exact J61 p0 p1 x1 x2 M
      · exact zk_vret (pc := 36) B dX9_shorten_36 rfl (Nat.le_of_ble_eq_true rfl) (Nat.le_of_ble_eq_true rfl) rfl
set_option maxHeartbeats 4000000 in
set_option maxRecDepth 100000 in
theorem m_Town_findWays {X : z_X} (hX : z_ok X) {G : z_Gr} {a : Nat} (ha : g_Town G a) (M : z_Mem) (b : z_Mem) (h : F_Town_findWays a M = some b) : z_Ct X yX9_findWays cX9_findWays 4 none ({ frames := 3, cells := 0, slots := 0, locals := 69 } : Room) [.ref a] G M (fun o9 G9 M9 => G9 = G ∧ (o9, M9) = z_cvm b) := by
  refine z_enter hX (by decide) (Nat.le_of_ble_eq_true rfl) h (fun F B hR => ?_)
  have L2 : ∀ (nf2 : Nat), ∀ (v1 : Int32) (M : z_Mem), z_K X F 4 0 0 G z_cvm b 0 0 2 [(0, .ref a), (1, .int v1)] [] M (F_Town_findWays_L2 a nf2 v1 M) := by
    intro nf2
    induction nf2 with
    | zero => intro v1 M; exact zk_none
    | succ nf2 ih2 =>
      have L10 : ∀ (nf10 : Nat), ∀ (v1 : Int32) (v2 : Int32) (M : z_Mem), z_K X F 4 0 0 G z_cvm b 0 0 10 [(0, .ref a), (1, .int v1), (2, .int v2)] [] M (F_Town_findWays_L10 a (F_Town_findWays_L2 a nf2) nf10 v1 v2 M) := by
        intro nf10
        induction nf10 with
        | zero => intro v1 v2 M; exact zk_none
        | succ nf10 ih10 =>
          have L18 : ∀ (nf18 : Nat), ∀ (v1 : Int32) (v2 : Int32) (v3 : Int32) (M : z_Mem), z_K X F 4 0 0 G z_cvm b 0 0 18 [(0, .ref a), (1, .int v1), (2, .int v2), (3, .int v3)] [] M (F_Town_findWays_L18 a (F_Town_findWays_L2 a nf2) (F_Town_findWays_L10 a (F_Town_findWays_L2 a nf2) nf10) nf18 v1 v2 v3 M) := by
            intro nf18
            induction nf18 with
            | zero => intro v1 v2 v3 M; exact zk_none
            | succ nf18 ih18 =>
              intro v1 v2 v3 M
              show z_K X F 4 0 0 G z_cvm b 0 0 18 [(0, .ref a), (1, .int v1), (2, .int v2), (3, .int v3)] [] M (F_Town_findWays_B18 a (F_Town_findWays_L2 a nf2) (F_Town_findWays_L10 a (F_Town_findWays_L2 a nf2) nf10) (F_Town_findWays_L18 a (F_Town_findWays_L2 a nf2) (F_Town_findWays_L10 a (F_Town_findWays_L2 a nf2) nf10) nf18) v1 v2 v3 M)
              unfold F_Town_findWays_B18
              refine zk_iload_n (pc := 18) B dX9_findWays_18 3 rfl rfl ?_
              refine zk_bipush (v := 8) (pc := 19) B dX9_findWays_19 (by decide) ?_
              refine zk_icmp_ge (tgt := 37) (pc := 21) B dX9_findWays_21 (by decide) (fun _ => ?_) (fun _ => ?_)
              · refine zk_iinc (y := 1) (lf := fun x2 => [(2, .int x2), (0, .ref a), (1, .int v1), (3, .int v3)]) (pc := 37) B dX9_findWays_37 2 rfl (by decide) (by decide) (fun _ => rfl) (fun x2 => ?_)
                refine zk_goto (tgt := 10) (pc := 40) B dX9_findWays_40 (by decide) ?_
                refine zk_sub [1, 2, 0] rfl ?_
                exact ih10 v1 x2 M
              · refine zk_aload_n (pc := 24) B dX9_findWays_24 0 rfl rfl ?_
                refine zk_iload_n (pc := 25) B dX9_findWays_25 2 rfl rfl ?_
                refine zk_iload_n (pc := 26) B dX9_findWays_26 3 rfl rfl ?_
                refine zk_iload_n (pc := 27) B dX9_findWays_27 1 rfl rfl ?_
                refine zk_cvm (pc := 28) (k' := 0) (n' := 0) B rfl rfl (Nat.le_of_ble_eq_true rfl) (Nat.le_of_ble_eq_true rfl) (fun b hb => zr_V B hR kV_yX9_shorten km_9_26 kx_9 (gTown_s ha) [.int v2, .int v3, .int v1] rfl rfl (Nat.le_of_ble_eq_true rfl) dX9_findWays_28 (m_Town_shorten hX ha v2 v3 v1 M b hb) ⟨Nat.le_of_ble_eq_true rfl, Nat.le_of_ble_eq_true rfl⟩ ⟨Nat.le_of_ble_eq_true rfl, Nat.le_of_ble_eq_true rfl⟩) (fun M3 => ?_)
                refine zk_iinc (y := 1) (lf := fun x4 => [(3, .int x4), (0, .ref a), (1, .int v1), (2, .int v2)]) (pc := 31) B dX9_findWays_31 3 rfl (by decide) (by decide) (fun _ => rfl) (fun x4 => ?_)
                refine zk_goto (tgt := 18) (pc := 34) B dX9_findWays_34 (by decide) ?_
                refine zk_sub [1, 2, 3, 0] rfl ?_
                exact ih18 v1 v2 x4 M3
          intro v1 v2 M
          show z_K X F 4 0 0 G z_cvm b 0 0 10 [(0, .ref a), (1, .int v1), (2, .int v2)] [] M (F_Town_findWays_B10 a (F_Town_findWays_L2 a nf2) (F_Town_findWays_L10 a (F_Town_findWays_L2 a nf2) nf10) v1 v2 M)
          unfold F_Town_findWays_B10
          refine zk_iload_n (pc := 10) B dX9_findWays_10 2 rfl rfl ?_
          refine zk_bipush (v := 8) (pc := 11) B dX9_findWays_11 (by decide) ?_
          refine zk_icmp_ge (tgt := 43) (pc := 13) B dX9_findWays_13 (by decide) (fun _ => ?_) (fun _ => ?_)
          · refine zk_iinc (y := 1) (lf := fun x1 => [(1, .int x1), (0, .ref a), (2, .int v2)]) (pc := 43) B dX9_findWays_43 1 rfl (by decide) (by decide) (fun _ => rfl) (fun x1 => ?_)
            refine zk_goto (tgt := 2) (pc := 46) B dX9_findWays_46 (by decide) ?_
            refine zk_sub [1, 0] rfl ?_
            exact ih2 x1 M
          · refine zk_iconst (v := 0) (pc := 16) B dX9_findWays_16 (by decide) ?_
            refine zk_istore_n (loc' := [(3, .int 0), (0, .ref a), (1, .int v1), (2, .int v2)]) (pc := 17) B dX9_findWays_17 rfl (by decide) rfl ?_
            refine zk_sub [1, 2, 3, 0] rfl ?_
            exact L18 10000 v1 v2 0 M
      intro v1 M
      show z_K X F 4 0 0 G z_cvm b 0 0 2 [(0, .ref a), (1, .int v1)] [] M (F_Town_findWays_B2 a (F_Town_findWays_L2 a nf2) v1 M)
      unfold F_Town_findWays_B2
      refine zk_iload_n (pc := 2) B dX9_findWays_2 1 rfl rfl ?_
      refine zk_bipush (v := 8) (pc := 3) B dX9_findWays_3 (by decide) ?_
      refine zk_icmp_ge (tgt := 49) (pc := 5) B dX9_findWays_5 (by decide) (fun _ => ?_) (fun _ => ?_)
      · exact zk_vret (pc := 49) B dX9_findWays_49 rfl (Nat.le_of_ble_eq_true rfl) (Nat.le_of_ble_eq_true rfl) rfl
      · refine zk_iconst (v := 0) (pc := 8) B dX9_findWays_8 (by decide) ?_
        refine zk_istore_n (loc' := [(2, .int 0), (0, .ref a), (1, .int v1)]) (pc := 9) B dX9_findWays_9 rfl (by decide) rfl ?_
        refine zk_sub [1, 2, 0] rfl ?_
        exact L10 10000 v1 0 M
  show z_K X F 4 0 0 G z_cvm b 0 0 0 [(0, .ref a)] [] M (F_Town_findWays a M)
  unfold F_Town_findWays
  refine zk_iconst (v := 0) (pc := 0) B dX9_findWays_0 (by decide) ?_
  refine zk_istore_n (loc' := [(1, .int 0), (0, .ref a)]) (pc := 1) B dX9_findWays_1 rfl (by decide) rfl ?_
  refine zk_sub [1, 0] rfl ?_
  exact L2 10000 0 M
set_option maxHeartbeats 4000000 in
set_option maxRecDepth 100000 in
theorem m_TextReader_readText {X : z_X} (hX : z_ok X) {G : z_Gr} {o : Nat} (hG : g_Sys G o) (M : z_Mem) (b : z_Mem) (h : F_TextReader_readText o M = some b) : z_Ct X yX7_readText cX7_readText 2 none ({ frames := 5, cells := 0, slots := 0, locals := 110 } : Room) [.ref (o + 504)] G M (fun o9 G9 M9 => G9 = G ∧ (o9, M9) = z_cvm b) := by
  refine z_enter hX (by decide) (Nat.le_of_ble_eq_true rfl) h (fun F B hR => ?_)
  have J72 : ∀  (M : z_Mem), z_K X F 2 0 0 G z_cvm b 0 0 72 [(0, .ref (o + 504))] [] M (F_TextReader_readText_J72 o M) := by
    intro  M
    unfold F_TextReader_readText_J72
    refine zk_aload_n (pc := 72) B dX7_readText_72 0 rfl rfl ?_
    refine zk_getr (pc := 73) B kx_7 (gTextReader_s hG) 0 (by decide) kf_7_12 rfl (gTextReader_f0 hG) dX7_readText_73 ?_
    refine zk_cvm (pc := 76) (k' := 0) (n' := 0) B rfl rfl (Nat.le_of_ble_eq_true rfl) (Nat.le_of_ble_eq_true rfl) (fun b hb => zr_V B hR kV_yX9_findWays km_7_55 kx_9 (gTown_s (gTextReader_t0 hG)) [] rfl rfl (Nat.le_of_ble_eq_true rfl) dX7_readText_76 (m_Town_findWays hX (gTextReader_t0 hG) M b hb) ⟨Nat.le_of_ble_eq_true rfl, Nat.le_of_ble_eq_true rfl⟩ ⟨Nat.le_of_ble_eq_true rfl, Nat.le_of_ble_eq_true rfl⟩) (fun M11 => ?_)
    exact zk_vret (pc := 79) B dX7_readText_79 rfl (Nat.le_of_ble_eq_true rfl) (Nat.le_of_ble_eq_true rfl) rfl
  have L45 : ∀ (nf45 : Nat), ∀ (v1 : Int32) (M : z_Mem), z_K X F 2 0 0 G z_cvm b 0 0 45 [(0, .ref (o + 504)), (1, .int v1)] [] M (F_TextReader_readText_L45 o nf45 v1 M) := by
    intro nf45
    induction nf45 with
    | zero => intro v1 M; exact zk_none
    | succ nf45 ih45 =>
      intro v1 M
      show z_K X F 2 0 0 G z_cvm b 0 0 45 [(0, .ref (o + 504)), (1, .int v1)] [] M (F_TextReader_readText_B45 o (F_TextReader_readText_L45 o nf45) v1 M)
      unfold F_TextReader_readText_B45
      refine zk_iload_n (pc := 45) B dX7_readText_45 1 rfl rfl ?_
      refine zk_sipush (v := 800) (pc := 46) B dX7_readText_46 (by decide) ?_
      refine zk_icmp_ge (tgt := 72) (pc := 49) B dX7_readText_49 (by decide) (fun _ => ?_) (fun _ => ?_)
      · refine zk_sub [0] rfl ?_
        exact J72 M
      · refine zk_aload_n (pc := 52) B dX7_readText_52 0 rfl rfl ?_
        refine zk_getr (pc := 53) B kx_7 (gTextReader_s hG) 2 (by decide) kf_7_25 rfl (gTextReader_f2 hG) dX7_readText_53 ?_
        refine zk_cpi (pc := 56) (k' := 0) (n' := 0) B rfl rfl (Nat.le_of_ble_eq_true rfl) (Nat.le_of_ble_eq_true rfl) (fun b hb => zr_V B hR kV_yX8_hasMore km_7_48 kx_8 (gTokens_s hG) [] rfl rfl (Nat.le_of_ble_eq_true rfl) dX7_readText_56 (m_Tokens_hasMore hX hG M b hb) ⟨Nat.le_of_ble_eq_true rfl, Nat.le_of_ble_eq_true rfl⟩ ⟨Nat.le_of_ble_eq_true rfl, Nat.le_of_ble_eq_true rfl⟩) (fun x8 _ => ?_)
        refine zk_if_eq (tgt := 72) (pc := 59) B dX7_readText_59 (by decide) (fun _ => ?_) (fun _ => ?_)
        · refine zk_sub [0] rfl ?_
          exact J72 M
        · refine zk_aload_n (pc := 62) B dX7_readText_62 0 rfl rfl ?_
          refine zk_cvm (pc := 63) (k' := 0) (n' := 0) B rfl rfl (Nat.le_of_ble_eq_true rfl) (Nat.le_of_ble_eq_true rfl) (fun b hb => zr_V B hR kV_yX7_readClause km_7_52 kx_7 (gTextReader_s hG) [] rfl rfl (Nat.le_of_ble_eq_true rfl) dX7_readText_63 (m_TextReader_readClause hX hG M b hb) ⟨Nat.le_of_ble_eq_true rfl, Nat.le_of_ble_eq_true rfl⟩ ⟨Nat.le_of_ble_eq_true rfl, Nat.le_of_ble_eq_true rfl⟩) (fun M9 => ?_)
          refine zk_iinc (y := 1) (lf := fun x10 => [(1, .int x10), (0, .ref (o + 504))]) (pc := 66) B dX7_readText_66 1 rfl (by decide) (by decide) (fun _ => rfl) (fun x10 => ?_)
          refine zk_goto (tgt := 45) (pc := 69) B dX7_readText_69 (by decide) ?_
          refine zk_sub [1, 0] rfl ?_
          exact ih45 x10 M9
  show z_K X F 2 0 0 G z_cvm b 0 0 0 [(0, .ref (o + 504))] [] M (F_TextReader_readText o M)
  unfold F_TextReader_readText
  refine zk_aload_n (pc := 0) B dX7_readText_0 0 rfl rfl ?_
  refine zk_getr (pc := 1) B kx_7 (gTextReader_s hG) 1 (by decide) kf_7_21 rfl (gTextReader_f1 hG) dX7_readText_1 ?_
  refine zk_cvm (pc := 4) (k' := 0) (n' := 0) B rfl rfl (Nat.le_of_ble_eq_true rfl) (Nat.le_of_ble_eq_true rfl) (fun b hb => zr_V B hR kV_yX0_clear km_7_29 kx_0 (gDesk_s (gTextReader_t1 hG)) [] rfl rfl (Nat.le_of_ble_eq_true rfl) dX7_readText_4 (m_Desk_clear hX (gTextReader_t1 hG) M b hb) ⟨Nat.le_of_ble_eq_true rfl, Nat.le_of_ble_eq_true rfl⟩ ⟨Nat.le_of_ble_eq_true rfl, Nat.le_of_ble_eq_true rfl⟩) (fun M1 => ?_)
  refine zk_aload_n (pc := 7) B dX7_readText_7 0 rfl rfl ?_
  refine zk_getr (pc := 8) B kx_7 (gTextReader_s hG) 2 (by decide) kf_7_25 rfl (gTextReader_f2 hG) dX7_readText_8 ?_
  refine zk_iconst (v := 0) (pc := 11) B dX7_readText_11 (by decide) ?_
  refine zk_iconst (v := 0) (pc := 12) B dX7_readText_12 (by decide) ?_
  refine zk_cim (pc := 13) (k' := 0) (n' := 0) B rfl rfl (Nat.le_of_ble_eq_true rfl) (Nat.le_of_ble_eq_true rfl) (fun b hb => zr_V B hR kV_yX8_takeWord km_7_34 kx_8 (gTokens_s hG) [.int 0, .int 0] rfl rfl (Nat.le_of_ble_eq_true rfl) dX7_readText_13 (m_Tokens_takeWord hX hG 0 0 M1 b hb) ⟨Nat.le_of_ble_eq_true rfl, Nat.le_of_ble_eq_true rfl⟩ ⟨Nat.le_of_ble_eq_true rfl, Nat.le_of_ble_eq_true rfl⟩) (fun x3 M2 => ?_)
  refine zk_pop (pc := 16) B dX7_readText_16 rfl ?_
  refine zk_aload_n (pc := 17) B dX7_readText_17 0 rfl rfl ?_
  refine zk_getr (pc := 18) B kx_7 (gTextReader_s hG) 0 (by decide) kf_7_12 rfl (gTextReader_f0 hG) dX7_readText_18 ?_
  refine zk_aload_n (pc := 21) B dX7_readText_21 0 rfl rfl ?_
  refine zk_getr (pc := 22) B kx_7 (gTextReader_s hG) 2 (by decide) kf_7_25 rfl (gTextReader_f2 hG) dX7_readText_22 ?_
  refine zk_iconst (v := 2) (pc := 25) B dX7_readText_25 (by decide) ?_
  refine zk_bipush (v := 8) (pc := 26) B dX7_readText_26 (by decide) ?_
  refine zk_cim (pc := 28) (k' := 0) (n' := 0) B rfl rfl (Nat.le_of_ble_eq_true rfl) (Nat.le_of_ble_eq_true rfl) (fun b hb => zr_V B hR kV_yX8_takeNumber km_7_38 kx_8 (gTokens_s hG) [.int 2, .int 8] rfl rfl (Nat.le_of_ble_eq_true rfl) dX7_readText_28 (m_Tokens_takeNumber hX hG 2 8 M2 b hb) ⟨Nat.le_of_ble_eq_true rfl, Nat.le_of_ble_eq_true rfl⟩ ⟨Nat.le_of_ble_eq_true rfl, Nat.le_of_ble_eq_true rfl⟩) (fun x5 M4 => ?_)
  refine zk_cvm (pc := 31) (k' := 0) (n' := 0) B rfl rfl (Nat.le_of_ble_eq_true rfl) (Nat.le_of_ble_eq_true rfl) (fun b hb => zr_V B hR kV_yX9_clear km_7_41 kx_9 (gTown_s (gTextReader_t0 hG)) [.int x5] rfl rfl (Nat.le_of_ble_eq_true rfl) dX7_readText_31 (m_Town_clear hX (gTextReader_t0 hG) x5 M4 b hb) ⟨Nat.le_of_ble_eq_true rfl, Nat.le_of_ble_eq_true rfl⟩ ⟨Nat.le_of_ble_eq_true rfl, Nat.le_of_ble_eq_true rfl⟩) (fun M6 => ?_)
  refine zk_aload_n (pc := 34) B dX7_readText_34 0 rfl rfl ?_
  refine zk_getr (pc := 35) B kx_7 (gTextReader_s hG) 2 (by decide) kf_7_25 rfl (gTextReader_f2 hG) dX7_readText_35 ?_
  refine zk_bipush (v := 59) (pc := 38) B dX7_readText_38 (by decide) ?_
  refine zk_cvm (pc := 40) (k' := 0) (n' := 0) B rfl rfl (Nat.le_of_ble_eq_true rfl) (Nat.le_of_ble_eq_true rfl) (fun b hb => zr_V B hR kV_yX8_takeSign km_7_44 kx_8 (gTokens_s hG) [.int 59] rfl rfl (Nat.le_of_ble_eq_true rfl) dX7_readText_40 (m_Tokens_takeSign hX hG 59 M6 b hb) ⟨Nat.le_of_ble_eq_true rfl, Nat.le_of_ble_eq_true rfl⟩ ⟨Nat.le_of_ble_eq_true rfl, Nat.le_of_ble_eq_true rfl⟩) (fun M7 => ?_)
  refine zk_iconst (v := 0) (pc := 43) B dX7_readText_43 (by decide) ?_
  refine zk_istore_n (loc' := [(1, .int 0), (0, .ref (o + 504))]) (pc := 44) B dX7_readText_44 rfl (by decide) rfl ?_
  refine zk_sub [1, 0] rfl ?_
  exact L45 10000 0 M7
set_option maxHeartbeats 4000000 in
set_option maxRecDepth 100000 in
theorem m_Tokens_byteAt {X : z_X} (hX : z_ok X) {G : z_Gr} {o : Nat} (hG : g_Sys G o) (p0 : Int32) (M : z_Mem) (b : Int32) (h : F_Tokens_byteAt o p0 M = some b) : z_Ct X yX8_byteAt cX8_byteAt 2 (some .int) ({ frames := 0, cells := 0, slots := 0, locals := 0 } : Room) [.ref (o + 499), .int p0] G M (fun o9 G9 M9 => G9 = G ∧ (o9, M9) = (z_ci M) b) := by
  refine z_enter hX (by decide) (Nat.le_of_ble_eq_true rfl) h (fun F B hR => ?_)
  show z_K X F 2 0 0 G (z_ci M) b 0 0 0 [(0, .ref (o + 499)), (1, .int p0)] [] M (F_Tokens_byteAt o p0 M)
  unfold F_Tokens_byteAt
  refine zk_iload_n (pc := 0) B dX8_byteAt_0 1 rfl rfl ?_
  refine zk_if_lt (tgt := 26) (pc := 1) B dX8_byteAt_1 (by decide) (fun _ => ?_) (fun _ => ?_)
  · refine zk_iconst (v := 0) (pc := 26) B dX8_byteAt_26 (by decide) ?_
    exact zk_iret (pc := 27) B dX8_byteAt_27 rfl rfl (Nat.le_of_ble_eq_true rfl) (Nat.le_of_ble_eq_true rfl) rfl
  · refine zk_iload_n (pc := 4) B dX8_byteAt_4 1 rfl rfl ?_
    refine zk_aload_n (pc := 5) B dX8_byteAt_5 0 rfl rfl ?_
    refine zk_getr (pc := 6) B kx_8 (gTokens_s hG) 2 (by decide) kf_8_28 rfl (gTokens_f2 hG) dX8_byteAt_6 ?_
    refine zk_alen (v := 800) (pc := 9) B (gTokens_t2 hG) (by decide) (by decide) dX8_byteAt_9 ?_
    refine zk_icmp_ge (tgt := 26) (pc := 10) B dX8_byteAt_10 (by decide) (fun _ => ?_) (fun _ => ?_)
    · refine zk_iconst (v := 0) (pc := 26) B dX8_byteAt_26 (by decide) ?_
      exact zk_iret (pc := 27) B dX8_byteAt_27 rfl rfl (Nat.le_of_ble_eq_true rfl) (Nat.le_of_ble_eq_true rfl) rfl
    · refine zk_aload_n (pc := 13) B dX8_byteAt_13 0 rfl rfl ?_
      refine zk_getr (pc := 14) B kx_8 (gTokens_s hG) 2 (by decide) kf_8_28 rfl (gTokens_f2 hG) dX8_byteAt_14 ?_
      refine zk_iload_n (pc := 17) B dX8_byteAt_17 1 rfl rfl ?_
      refine zk_bald (pc := 18) B (gTokens_t2 hG) dX8_byteAt_18 ?_
      refine zk_sipush (v := 255) (pc := 19) B dX8_byteAt_19 (by decide) ?_
      refine zk_iand (pc := 22) B dX8_byteAt_22 ?_
      refine zk_goto (tgt := 27) (pc := 23) B dX8_byteAt_23 (by decide) ?_
      exact zk_iret (pc := 27) B dX8_byteAt_27 rfl rfl (Nat.le_of_ble_eq_true rfl) (Nat.le_of_ble_eq_true rfl) rfl
set_option maxHeartbeats 4000000 in
set_option maxRecDepth 100000 in
theorem m_Tokens_kindOf {X : z_X} (hX : z_ok X) {G : z_Gr} (p0 : Int32) (M : z_Mem) (b : Int32) (h : F_Tokens_kindOf p0 M = some b) : z_Ct X yX8_kindOf cX8_kindOf 1 (some .int) ({ frames := 0, cells := 0, slots := 0, locals := 0 } : Room) [.int p0] G M (fun o9 G9 M9 => G9 = G ∧ (o9, M9) = (z_ci M) b) := by
  refine z_enter hX (by decide) (Nat.le_of_ble_eq_true rfl) h (fun F B hR => ?_)
  have J28 : ∀ (v0 : Int32), z_K X F 1 0 0 G (z_ci M) b 0 0 28 [(0, .int v0)] [] M (F_Tokens_kindOf_J28 v0 M) := by
    intro v0
    unfold F_Tokens_kindOf_J28
    refine zk_iload_n (pc := 28) B dX8_kindOf_28 0 rfl rfl ?_
    refine zk_bipush (v := 48) (pc := 29) B dX8_kindOf_29 (by decide) ?_
    refine zk_icmp_lt (tgt := 44) (pc := 31) B dX8_kindOf_31 (by decide) (fun _ => ?_) (fun _ => ?_)
    · refine zk_iconst (v := 3) (pc := 44) B dX8_kindOf_44 (by decide) ?_
      exact zk_iret (pc := 45) B dX8_kindOf_45 rfl rfl (Nat.le_of_ble_eq_true rfl) (Nat.le_of_ble_eq_true rfl) rfl
    · refine zk_iload_n (pc := 34) B dX8_kindOf_34 0 rfl rfl ?_
      refine zk_bipush (v := 57) (pc := 35) B dX8_kindOf_35 (by decide) ?_
      refine zk_icmp_gt (tgt := 44) (pc := 37) B dX8_kindOf_37 (by decide) (fun _ => ?_) (fun _ => ?_)
      · refine zk_iconst (v := 3) (pc := 44) B dX8_kindOf_44 (by decide) ?_
        exact zk_iret (pc := 45) B dX8_kindOf_45 rfl rfl (Nat.le_of_ble_eq_true rfl) (Nat.le_of_ble_eq_true rfl) rfl
      · refine zk_iconst (v := 2) (pc := 40) B dX8_kindOf_40 (by decide) ?_
        refine zk_goto (tgt := 45) (pc := 41) B dX8_kindOf_41 (by decide) ?_
        exact zk_iret (pc := 45) B dX8_kindOf_45 rfl rfl (Nat.le_of_ble_eq_true rfl) (Nat.le_of_ble_eq_true rfl) rfl
  show z_K X F 1 0 0 G (z_ci M) b 0 0 0 [(0, .int p0)] [] M (F_Tokens_kindOf p0 M)
  unfold F_Tokens_kindOf
  refine zk_iload_n (pc := 0) B dX8_kindOf_0 0 rfl rfl ?_
  refine zk_bipush (v := 32) (pc := 1) B dX8_kindOf_1 (by decide) ?_
  refine zk_icmp_eq (tgt := 12) (pc := 3) B dX8_kindOf_3 (by decide) (fun _ => ?_) (fun _ => ?_)
  · refine zk_iconst (v := 0) (pc := 12) B dX8_kindOf_12 (by decide) ?_
    exact zk_iret (pc := 13) B dX8_kindOf_13 rfl rfl (Nat.le_of_ble_eq_true rfl) (Nat.le_of_ble_eq_true rfl) rfl
  · refine zk_iload_n (pc := 6) B dX8_kindOf_6 0 rfl rfl ?_
    refine zk_bipush (v := 10) (pc := 7) B dX8_kindOf_7 (by decide) ?_
    refine zk_icmp_ne (tgt := 14) (pc := 9) B dX8_kindOf_9 (by decide) (fun _ => ?_) (fun _ => ?_)
    · refine zk_iload_n (pc := 14) B dX8_kindOf_14 0 rfl rfl ?_
      refine zk_bipush (v := 97) (pc := 15) B dX8_kindOf_15 (by decide) ?_
      refine zk_icmp_lt (tgt := 28) (pc := 17) B dX8_kindOf_17 (by decide) (fun _ => ?_) (fun _ => ?_)
      · exact J28 p0
      · refine zk_iload_n (pc := 20) B dX8_kindOf_20 0 rfl rfl ?_
        refine zk_bipush (v := 122) (pc := 21) B dX8_kindOf_21 (by decide) ?_
        refine zk_icmp_gt (tgt := 28) (pc := 23) B dX8_kindOf_23 (by decide) (fun _ => ?_) (fun _ => ?_)
        · exact J28 p0
        · refine zk_iconst (v := 1) (pc := 26) B dX8_kindOf_26 (by decide) ?_
          exact zk_iret (pc := 27) B dX8_kindOf_27 rfl rfl (Nat.le_of_ble_eq_true rfl) (Nat.le_of_ble_eq_true rfl) rfl
    · refine zk_iconst (v := 0) (pc := 12) B dX8_kindOf_12 (by decide) ?_
      exact zk_iret (pc := 13) B dX8_kindOf_13 rfl rfl (Nat.le_of_ble_eq_true rfl) (Nat.le_of_ble_eq_true rfl) rfl
set_option maxHeartbeats 4000000 in
set_option maxRecDepth 100000 in
theorem m_Tokens_appendToken {X : z_X} (hX : z_ok X) {G : z_Gr} {o : Nat} (hG : g_Sys G o) (p0 : Int32) (p1 : Int32) (M : z_Mem) (b : z_Mem) (h : F_Tokens_appendToken o p0 p1 M = some b) : z_Ct X yX8_appendToken cX8_appendToken 3 none ({ frames := 0, cells := 0, slots := 0, locals := 0 } : Room) [.ref (o + 499), .int p0, .int p1] G M (fun o9 G9 M9 => G9 = G ∧ (o9, M9) = z_cvm b) := by
  refine z_enter hX (by decide) (Nat.le_of_ble_eq_true rfl) h (fun F B hR => ?_)
  show z_K X F 3 0 0 G z_cvm b 0 0 0 [(0, .ref (o + 499)), (1, .int p0), (2, .int p1)] [] M (F_Tokens_appendToken o p0 p1 M)
  unfold F_Tokens_appendToken
  refine zk_aload_n (pc := 0) B dX8_appendToken_0 0 rfl rfl ?_
  refine zk_geti (pc := 1) B kx_8 (gTokens_s hG) 7 (by decide) kf_8_35 rfl dX8_appendToken_1 ?_
  refine zk_if_lt (tgt := 67) (pc := 4) B dX8_appendToken_4 (by decide) (fun _ => ?_) (fun _ => ?_)
  · exact zk_vret (pc := 67) B dX8_appendToken_67 rfl (Nat.le_of_ble_eq_true rfl) (Nat.le_of_ble_eq_true rfl) rfl
  · refine zk_aload_n (pc := 7) B dX8_appendToken_7 0 rfl rfl ?_
    refine zk_geti (pc := 8) B kx_8 (gTokens_s hG) 7 (by decide) kf_8_35 rfl dX8_appendToken_8 ?_
    refine zk_sipush (v := 800) (pc := 11) B dX8_appendToken_11 (by decide) ?_
    refine zk_icmp_gt (tgt := 67) (pc := 14) B dX8_appendToken_14 (by decide) (fun _ => ?_) (fun _ => ?_)
    · exact zk_vret (pc := 67) B dX8_appendToken_67 rfl (Nat.le_of_ble_eq_true rfl) (Nat.le_of_ble_eq_true rfl) rfl
    · refine zk_aload_n (pc := 17) B dX8_appendToken_17 0 rfl rfl ?_
      refine zk_getr (pc := 18) B kx_8 (gTokens_s hG) 3 (by decide) kf_8_15 rfl (gTokens_f3 hG) dX8_appendToken_18 ?_
      refine zk_aload_n (pc := 21) B dX8_appendToken_21 0 rfl rfl ?_
      refine zk_geti (pc := 22) B kx_8 (gTokens_s hG) 7 (by decide) kf_8_35 rfl dX8_appendToken_22 ?_
      refine zk_iload_n (pc := 25) B dX8_appendToken_25 1 rfl rfl ?_
      refine zk_iast (pc := 26) B (gTokens_t3 hG) dX8_appendToken_26 ?_
      refine zk_lm (fun M1 => ?_)
      refine zk_aload_n (pc := 27) B dX8_appendToken_27 0 rfl rfl ?_
      refine zk_getr (pc := 28) B kx_8 (gTokens_s hG) 4 (by decide) kf_8_19 rfl (gTokens_f4 hG) dX8_appendToken_28 ?_
      refine zk_aload_n (pc := 31) B dX8_appendToken_31 0 rfl rfl ?_
      refine zk_geti (pc := 32) B kx_8 (gTokens_s hG) 7 (by decide) kf_8_35 rfl dX8_appendToken_32 ?_
      refine zk_iload_n (pc := 35) B dX8_appendToken_35 2 rfl rfl ?_
      refine zk_iast (pc := 36) B (gTokens_t4 hG) dX8_appendToken_36 ?_
      refine zk_lm (fun M2 => ?_)
      refine zk_aload_n (pc := 37) B dX8_appendToken_37 0 rfl rfl ?_
      refine zk_getr (pc := 38) B kx_8 (gTokens_s hG) 5 (by decide) kf_8_22 rfl (gTokens_f5 hG) dX8_appendToken_38 ?_
      refine zk_aload_n (pc := 41) B dX8_appendToken_41 0 rfl rfl ?_
      refine zk_geti (pc := 42) B kx_8 (gTokens_s hG) 7 (by decide) kf_8_35 rfl dX8_appendToken_42 ?_
      refine zk_iconst (v := 0) (pc := 45) B dX8_appendToken_45 (by decide) ?_
      refine zk_iast (pc := 46) B (gTokens_t5 hG) dX8_appendToken_46 ?_
      refine zk_lm (fun M3 => ?_)
      refine zk_aload_n (pc := 47) B dX8_appendToken_47 0 rfl rfl ?_
      refine zk_getr (pc := 48) B kx_8 (gTokens_s hG) 6 (by decide) kf_8_25 rfl (gTokens_f6 hG) dX8_appendToken_48 ?_
      refine zk_aload_n (pc := 51) B dX8_appendToken_51 0 rfl rfl ?_
      refine zk_geti (pc := 52) B kx_8 (gTokens_s hG) 7 (by decide) kf_8_35 rfl dX8_appendToken_52 ?_
      refine zk_iconst (v := 0) (pc := 55) B dX8_appendToken_55 (by decide) ?_
      refine zk_iast (pc := 56) B (gTokens_t6 hG) dX8_appendToken_56 ?_
      refine zk_lm (fun M4 => ?_)
      refine zk_aload_n (pc := 57) B dX8_appendToken_57 0 rfl rfl ?_
      refine zk_dup (pc := 58) B dX8_appendToken_58 rfl ?_
      refine zk_geti (pc := 59) B kx_8 (gTokens_s hG) 7 (by decide) kf_8_35 rfl dX8_appendToken_59 ?_
      refine zk_iconst (v := 1) (pc := 62) B dX8_appendToken_62 (by decide) ?_
      refine zk_iadd (pc := 63) B dX8_appendToken_63 ?_
      refine zk_puti (pc := 64) B kx_8 (gTokens_s hG) 7 (by decide) kf_8_35 rfl rfl rfl rfl dX8_appendToken_64 ?_
      refine zk_lm (fun M5 => ?_)
      exact zk_vret (pc := 67) B dX8_appendToken_67 rfl (Nat.le_of_ble_eq_true rfl) (Nat.le_of_ble_eq_true rfl) rfl
set_option maxHeartbeats 4000000 in
set_option maxRecDepth 100000 in
theorem m_Tokens_extendToken {X : z_X} (hX : z_ok X) {G : z_Gr} {o : Nat} (hG : g_Sys G o) (p0 : Int32) (M : z_Mem) (b : z_Mem) (h : F_Tokens_extendToken o p0 M = some b) : z_Ct X yX8_extendToken cX8_extendToken 3 none ({ frames := 1, cells := 0, slots := 0, locals := 32 } : Room) [.ref (o + 499), .int p0] G M (fun o9 G9 M9 => G9 = G ∧ (o9, M9) = z_cvm b) := by
  refine z_enter hX (by decide) (Nat.le_of_ble_eq_true rfl) h (fun F B hR => ?_)
  show z_K X F 3 0 0 G z_cvm b 0 0 0 [(0, .ref (o + 499)), (1, .int p0)] [] M (F_Tokens_extendToken o p0 M)
  unfold F_Tokens_extendToken
  refine zk_aload_n (pc := 0) B dX8_extendToken_0 0 rfl rfl ?_
  refine zk_geti (pc := 1) B kx_8 (gTokens_s hG) 7 (by decide) kf_8_35 rfl dX8_extendToken_1 ?_
  refine zk_iconst (v := 1) (pc := 4) B dX8_extendToken_4 (by decide) ?_
  refine zk_isub (pc := 5) B dX8_extendToken_5 ?_
  refine zk_li (fun x1 => ?_)
  refine zk_istore_n (loc' := [(2, .int x1), (0, .ref (o + 499)), (1, .int p0)]) (pc := 6) B dX8_extendToken_6 rfl (by decide) rfl ?_
  refine zk_iload_n (pc := 7) B dX8_extendToken_7 0 rfl rfl ?_
  refine zk_if_lt (tgt := 18) (pc := 8) B dX8_extendToken_8 (by decide) (fun _ => ?_) (fun _ => ?_)
  · exact zk_vret (pc := 18) B dX8_extendToken_18 rfl (Nat.le_of_ble_eq_true rfl) (Nat.le_of_ble_eq_true rfl) rfl
  · refine zk_iload_n (pc := 11) B dX8_extendToken_11 0 rfl rfl ?_
    refine zk_sipush (v := 800) (pc := 12) B dX8_extendToken_12 (by decide) ?_
    refine zk_icmp_le (tgt := 19) (pc := 15) B dX8_extendToken_15 (by decide) (fun _ => ?_) (fun _ => ?_)
    · refine zk_aload_n (pc := 19) B dX8_extendToken_19 1 rfl rfl ?_
      refine zk_getr (pc := 20) B kx_8 (gTokens_s hG) 5 (by decide) kf_8_22 rfl (gTokens_f5 hG) dX8_extendToken_20 ?_
      refine zk_iload_n (pc := 23) B dX8_extendToken_23 0 rfl rfl ?_
      refine zk_dup2 (pc := 24) B dX8_extendToken_24 rfl rfl ?_
      refine zk_iald (pc := 25) B (gTokens_t5 hG) dX8_extendToken_25 ?_
      refine zk_iconst (v := 1) (pc := 26) B dX8_extendToken_26 (by decide) ?_
      refine zk_iadd (pc := 27) B dX8_extendToken_27 ?_
      refine zk_iast (pc := 28) B (gTokens_t5 hG) dX8_extendToken_28 ?_
      refine zk_lm (fun M2 => ?_)
      refine zk_aload_n (pc := 29) B dX8_extendToken_29 1 rfl rfl ?_
      refine zk_getr (pc := 30) B kx_8 (gTokens_s hG) 3 (by decide) kf_8_15 rfl (gTokens_f3 hG) dX8_extendToken_30 ?_
      refine zk_iload_n (pc := 33) B dX8_extendToken_33 0 rfl rfl ?_
      refine zk_iald (pc := 34) B (gTokens_t3 hG) dX8_extendToken_34 ?_
      refine zk_iconst (v := 2) (pc := 35) B dX8_extendToken_35 (by decide) ?_
      refine zk_icmp_ne (tgt := 67) (pc := 36) B dX8_extendToken_36 (by decide) (fun _ => ?_) (fun _ => ?_)
      · refine zk_aload_n (pc := 67) B dX8_extendToken_67 1 rfl rfl ?_
        refine zk_getr (pc := 68) B kx_8 (gTokens_s hG) 6 (by decide) kf_8_25 rfl (gTokens_f6 hG) dX8_extendToken_68 ?_
        refine zk_iload_n (pc := 71) B dX8_extendToken_71 0 rfl rfl ?_
        refine zk_iload_n (pc := 72) B dX8_extendToken_72 2 rfl rfl ?_
        refine zk_iast (pc := 73) B (gTokens_t6 hG) dX8_extendToken_73 ?_
        refine zk_lm (fun M3 => ?_)
        exact zk_vret (pc := 74) B dX8_extendToken_74 rfl (Nat.le_of_ble_eq_true rfl) (Nat.le_of_ble_eq_true rfl) rfl
      · refine zk_aload_n (pc := 39) B dX8_extendToken_39 1 rfl rfl ?_
        refine zk_getr (pc := 40) B kx_8 (gTokens_s hG) 6 (by decide) kf_8_25 rfl (gTokens_f6 hG) dX8_extendToken_40 ?_
        refine zk_iload_n (pc := 43) B dX8_extendToken_43 0 rfl rfl ?_
        refine zk_aload_n (pc := 44) B dX8_extendToken_44 1 rfl rfl ?_
        refine zk_getr (pc := 45) B kx_8 (gTokens_s hG) 6 (by decide) kf_8_25 rfl (gTokens_f6 hG) dX8_extendToken_45 ?_
        refine zk_iload_n (pc := 48) B dX8_extendToken_48 0 rfl rfl ?_
        refine zk_iald (pc := 49) B (gTokens_t6 hG) dX8_extendToken_49 ?_
        refine zk_bipush (v := 10) (pc := 50) B dX8_extendToken_50 (by decide) ?_
        refine zk_imul (pc := 52) B dX8_extendToken_52 ?_
        refine zk_iload_n (pc := 53) B dX8_extendToken_53 2 rfl rfl ?_
        refine zk_iadd (pc := 54) B dX8_extendToken_54 ?_
        refine zk_bipush (v := 48) (pc := 55) B dX8_extendToken_55 (by decide) ?_
        refine zk_isub (pc := 57) B dX8_extendToken_57 ?_
        refine zk_ldc (pc := 58) B kc_8_62 dX8_extendToken_58 ?_
        refine zk_min (pc := 60) B hR km_8_63 kst_min ki_Math kco_min (Nat.le_of_ble_eq_true rfl) (Nat.le_of_ble_eq_true rfl) (Nat.le_of_ble_eq_true rfl) (Nat.le_of_ble_eq_true rfl) dX8_extendToken_60 ?_
        refine zk_li (fun x4 => ?_)
        refine zk_iast (pc := 63) B (gTokens_t6 hG) dX8_extendToken_63 ?_
        refine zk_lm (fun M5 => ?_)
        refine zk_goto (tgt := 74) (pc := 64) B dX8_extendToken_64 (by decide) ?_
        exact zk_vret (pc := 74) B dX8_extendToken_74 rfl (Nat.le_of_ble_eq_true rfl) (Nat.le_of_ble_eq_true rfl) rfl
    · exact zk_vret (pc := 18) B dX8_extendToken_18 rfl (Nat.le_of_ble_eq_true rfl) (Nat.le_of_ble_eq_true rfl) rfl
set_option maxHeartbeats 4000000 in
set_option maxRecDepth 100000 in
theorem m_Tokens_isWordAt {X : z_X} (hX : z_ok X) {G : z_Gr} {o : Nat} (hG : g_Sys G o) (p0 : Int32) (p1 : Int32) (p2 : Int32) (M : z_Mem) (b : Int32) (h : F_Tokens_isWordAt o p0 p1 p2 M = some b) : z_Ct X yX8_isWordAt cX8_isWordAt 6 (some .boolean) ({ frames := 4, cells := 0, slots := 0, locals := 85 } : Room) [.ref (o + 499), .int p0, .int p1, .int p2] G M (fun o9 G9 M9 => G9 = G ∧ (o9, M9) = (z_ci M) b) := by
  refine z_enter hX (by decide) (Nat.le_of_ble_eq_true rfl) h (fun F B hR => ?_)
  have L3 : ∀ (nf3 : Nat), ∀ (v1 : Int32) (v2 : Int32) (v3 : Int32) (v4 : Int32), z_K X F 6 0 0 G (z_ci M) b 0 0 3 [(0, .ref (o + 499)), (1, .int v1), (2, .int v2), (3, .int v3), (4, .int v4)] [] M (F_Tokens_isWordAt_L3 o nf3 v1 v2 v3 v4 M) := by
    intro nf3
    induction nf3 with
    | zero => intro v1 v2 v3 v4; exact zk_none
    | succ nf3 ih3 =>
      intro v1 v2 v3 v4
      show z_K X F 6 0 0 G (z_ci M) b 0 0 3 [(0, .ref (o + 499)), (1, .int v1), (2, .int v2), (3, .int v3), (4, .int v4)] [] M (F_Tokens_isWordAt_B3 o (F_Tokens_isWordAt_L3 o nf3) v1 v2 v3 v4 M)
      unfold F_Tokens_isWordAt_B3
      refine zk_iload (pc := 3) B dX8_isWordAt_3 4 rfl ?_
      refine zk_iload_n (pc := 5) B dX8_isWordAt_5 3 rfl rfl ?_
      refine zk_icmp_ge (tgt := 56) (pc := 6) B dX8_isWordAt_6 (by decide) (fun _ => ?_) (fun _ => ?_)
      · refine zk_iconst (v := 1) (pc := 56) B dX8_isWordAt_56 (by decide) ?_
        exact zk_iret (pc := 57) B dX8_isWordAt_57 rfl rfl (Nat.le_of_ble_eq_true rfl) (Nat.le_of_ble_eq_true rfl) rfl
      · refine zk_iload_n (pc := 9) B dX8_isWordAt_9 1 rfl rfl ?_
        refine zk_iload (pc := 10) B dX8_isWordAt_10 4 rfl ?_
        refine zk_iadd (pc := 12) B dX8_isWordAt_12 ?_
        refine zk_li (fun x1 => ?_)
        refine zk_istore (loc' := [(5, .int x1), (0, .ref (o + 499)), (1, .int v1), (2, .int v2), (3, .int v3), (4, .int v4)]) (pc := 13) B dX8_isWordAt_13 (by decide) rfl ?_
        refine zk_iload (pc := 15) B dX8_isWordAt_15 0 rfl ?_
        refine zk_if_lt (tgt := 48) (pc := 17) B dX8_isWordAt_17 (by decide) (fun _ => ?_) (fun _ => ?_)
        · refine zk_iconst (v := 0) (pc := 48) B dX8_isWordAt_48 (by decide) ?_
          exact zk_iret (pc := 49) B dX8_isWordAt_49 rfl rfl (Nat.le_of_ble_eq_true rfl) (Nat.le_of_ble_eq_true rfl) rfl
        · refine zk_iload (pc := 20) B dX8_isWordAt_20 0 rfl ?_
          refine zk_ldcs (pc := 22) B 0 (by decide) rfl rfl dX8_isWordAt_22 ?_
          refine zk_wlen (pc := 24) B hR dX8_isWordAt_24 (Nat.le_of_ble_eq_true rfl) ⟨Nat.le_of_ble_eq_true rfl, Nat.le_of_ble_eq_true rfl, Nat.le_of_ble_eq_true rfl, Nat.le_of_ble_eq_true rfl, Nat.le_of_ble_eq_true rfl, Nat.le_of_ble_eq_true rfl⟩ ?_
          refine zk_icmp_ge (tgt := 48) (pc := 27) B dX8_isWordAt_27 (by decide) (fun _ => ?_) (fun _ => ?_)
          · refine zk_iconst (v := 0) (pc := 48) B dX8_isWordAt_48 (by decide) ?_
            exact zk_iret (pc := 49) B dX8_isWordAt_49 rfl rfl (Nat.le_of_ble_eq_true rfl) (Nat.le_of_ble_eq_true rfl) rfl
          · refine zk_ldcs (pc := 30) B 0 (by decide) rfl rfl dX8_isWordAt_30 ?_
            refine zk_iload (pc := 32) B dX8_isWordAt_32 0 rfl ?_
            refine zk_wch (pc := 34) B hR dX8_isWordAt_34 (Nat.le_of_ble_eq_true rfl) ⟨Nat.le_of_ble_eq_true rfl, Nat.le_of_ble_eq_true rfl, Nat.le_of_ble_eq_true rfl, Nat.le_of_ble_eq_true rfl, Nat.le_of_ble_eq_true rfl, Nat.le_of_ble_eq_true rfl⟩ ?_
            refine zk_aload_n (pc := 37) B dX8_isWordAt_37 1 rfl rfl ?_
            refine zk_iload_n (pc := 38) B dX8_isWordAt_38 3 rfl rfl ?_
            refine zk_iload (pc := 39) B dX8_isWordAt_39 5 rfl ?_
            refine zk_iadd (pc := 41) B dX8_isWordAt_41 ?_
            refine zk_cpi (pc := 42) (k' := 0) (n' := 0) B rfl rfl (Nat.le_of_ble_eq_true rfl) (Nat.le_of_ble_eq_true rfl) (fun b hb => zr_V B hR kV_yX8_byteAt km_8_38 kx_8 (gTokens_s hG) [.int (v2 + v4)] rfl rfl (Nat.le_of_ble_eq_true rfl) dX8_isWordAt_42 (m_Tokens_byteAt hX hG (v2 + v4) M b hb) ⟨Nat.le_of_ble_eq_true rfl, Nat.le_of_ble_eq_true rfl⟩ ⟨Nat.le_of_ble_eq_true rfl, Nat.le_of_ble_eq_true rfl⟩) (fun x2 _ => ?_)
            refine zk_icmp_eq (tgt := 50) (pc := 45) B dX8_isWordAt_45 (by decide) (fun _ => ?_) (fun _ => ?_)
            · refine zk_iinc (y := 1) (lf := fun x3 => [(4, .int x3), (5, .int x1), (0, .ref (o + 499)), (1, .int v1), (2, .int v2), (3, .int v3)]) (pc := 50) B dX8_isWordAt_50 5 rfl (by decide) (by decide) (fun _ => rfl) (fun x3 => ?_)
              refine zk_goto (tgt := 3) (pc := 53) B dX8_isWordAt_53 (by decide) ?_
              refine zk_sub [2, 3, 4, 5, 0] rfl ?_
              exact ih3 v1 v2 v3 x3
            · refine zk_iconst (v := 0) (pc := 48) B dX8_isWordAt_48 (by decide) ?_
              exact zk_iret (pc := 49) B dX8_isWordAt_49 rfl rfl (Nat.le_of_ble_eq_true rfl) (Nat.le_of_ble_eq_true rfl) rfl
  show z_K X F 6 0 0 G (z_ci M) b 0 0 0 [(0, .ref (o + 499)), (1, .int p0), (2, .int p1), (3, .int p2)] [] M (F_Tokens_isWordAt o p0 p1 p2 M)
  unfold F_Tokens_isWordAt
  refine zk_iconst (v := 0) (pc := 0) B dX8_isWordAt_0 (by decide) ?_
  refine zk_istore (loc' := [(4, .int 0), (0, .ref (o + 499)), (1, .int p0), (2, .int p1), (3, .int p2)]) (pc := 1) B dX8_isWordAt_1 (by decide) rfl ?_
  refine zk_sub [1, 2, 3, 4, 0] rfl ?_
  exact L3 10000 p0 p1 p2 0
set_option maxHeartbeats 4000000 in
set_option maxRecDepth 100000 in
theorem m_Tokens_placeOfWord {X : z_X} (hX : z_ok X) {G : z_Gr} {o : Nat} (hG : g_Sys G o) (p0 : Int32) (p1 : Int32) (M : z_Mem) (b : Int32) (h : F_Tokens_placeOfWord o p0 p1 M = some b) : z_Ct X yX8_placeOfWord cX8_placeOfWord 6 (some .int) ({ frames := 5, cells := 0, slots := 0, locals := 110 } : Room) [.ref (o + 499), .int p0, .int p1] G M (fun o9 G9 M9 => G9 = G ∧ (o9, M9) = (z_ci M) b) := by
  refine z_enter hX (by decide) (Nat.le_of_ble_eq_true rfl) h (fun F B hR => ?_)
  have L8 : ∀ (nf8 : Nat), ∀ (v1 : Int32) (v2 : Int32) (v3 : Int32) (v4 : Int32) (v5 : Int32), z_K X F 6 0 0 G (z_ci M) b 0 0 8 [(0, .ref (o + 499)), (1, .int v1), (2, .int v2), (3, .int v3), (4, .int v4), (5, .int v5)] [] M (F_Tokens_placeOfWord_L8 o nf8 v1 v2 v3 v4 v5 M) := by
    intro nf8
    induction nf8 with
    | zero => intro v1 v2 v3 v4 v5; exact zk_none
    | succ nf8 ih8 =>
      have J62 : ∀ (v1 : Int32) (v2 : Int32) (v3 : Int32) (v5 : Int32), z_K X F 6 0 0 G (z_ci M) b 0 0 62 [(0, .ref (o + 499)), (1, .int v1), (2, .int v2), (3, .int v3), (5, .int v5)] [] M (F_Tokens_placeOfWord_J62 o (F_Tokens_placeOfWord_L8 o nf8) v1 v2 v3 v5 M) := by
        intro v1 v2 v3 v5
        unfold F_Tokens_placeOfWord_J62
        refine zk_iinc (y := 1) (lf := fun x3 => [(3, .int x3), (0, .ref (o + 499)), (1, .int v1), (2, .int v2), (5, .int v5)]) (pc := 62) B dX8_placeOfWord_62 3 rfl (by decide) (by decide) (fun _ => rfl) (fun x3 => ?_)
        refine zk_iload (pc := 65) B dX8_placeOfWord_65 4 rfl ?_
        refine zk_iconst (v := 1) (pc := 67) B dX8_placeOfWord_67 (by decide) ?_
        refine zk_iadd (pc := 68) B dX8_placeOfWord_68 ?_
        refine zk_li (fun x4 => ?_)
        refine zk_istore (loc' := [(4, .int x4), (3, .int x3), (0, .ref (o + 499)), (1, .int v1), (2, .int v2), (5, .int v5)]) (pc := 69) B dX8_placeOfWord_69 (by decide) rfl ?_
        refine zk_iinc (y := 1) (lf := fun x5 => [(5, .int x5), (4, .int x4), (3, .int x3), (0, .ref (o + 499)), (1, .int v1), (2, .int v2)]) (pc := 71) B dX8_placeOfWord_71 5 rfl (by decide) (by decide) (fun _ => rfl) (fun x5 => ?_)
        refine zk_goto (tgt := 8) (pc := 74) B dX8_placeOfWord_74 (by decide) ?_
        refine zk_sub [3, 4, 5, 2, 1, 0] rfl ?_
        exact ih8 v1 v2 x3 x4 x5
      have J40 : ∀ (v1 : Int32) (v2 : Int32) (v3 : Int32) (v4 : Int32) (v5 : Int32), z_K X F 6 0 0 G (z_ci M) b 0 0 40 [(0, .ref (o + 499)), (1, .int v1), (2, .int v2), (3, .int v3), (4, .int v4), (5, .int v5)] [] M (F_Tokens_placeOfWord_J40 o (F_Tokens_placeOfWord_L8 o nf8) v1 v2 v3 v4 v5 M) := by
        intro v1 v2 v3 v4 v5
        unfold F_Tokens_placeOfWord_J40
        refine zk_iload (pc := 40) B dX8_placeOfWord_40 5 rfl ?_
        refine zk_iload (pc := 42) B dX8_placeOfWord_42 4 rfl ?_
        refine zk_isub (pc := 44) B dX8_placeOfWord_44 ?_
        refine zk_iload_n (pc := 45) B dX8_placeOfWord_45 2 rfl rfl ?_
        refine zk_icmp_ne (tgt := 62) (pc := 46) B dX8_placeOfWord_46 (by decide) (fun _ => ?_) (fun _ => ?_)
        · refine zk_sub [0, 1, 2, 3, 5] rfl ?_
          exact J62 v1 v2 v3 v5
        · refine zk_aload_n (pc := 49) B dX8_placeOfWord_49 0 rfl rfl ?_
          refine zk_iload (pc := 50) B dX8_placeOfWord_50 4 rfl ?_
          refine zk_iload_n (pc := 52) B dX8_placeOfWord_52 1 rfl rfl ?_
          refine zk_iload_n (pc := 53) B dX8_placeOfWord_53 2 rfl rfl ?_
          refine zk_cpi (pc := 54) (k' := 0) (n' := 0) B rfl rfl (Nat.le_of_ble_eq_true rfl) (Nat.le_of_ble_eq_true rfl) (fun b hb => zr_V B hR kV_yX8_isWordAt km_8_84 kx_8 (gTokens_s hG) [.int v4, .int v1, .int v2] rfl rfl (Nat.le_of_ble_eq_true rfl) dX8_placeOfWord_54 (m_Tokens_isWordAt hX hG v4 v1 v2 M b hb) ⟨Nat.le_of_ble_eq_true rfl, Nat.le_of_ble_eq_true rfl⟩ ⟨Nat.le_of_ble_eq_true rfl, Nat.le_of_ble_eq_true rfl⟩) (fun x2 _ => ?_)
          refine zk_if_eq (tgt := 62) (pc := 57) B dX8_placeOfWord_57 (by decide) (fun _ => ?_) (fun _ => ?_)
          · refine zk_sub [0, 1, 2, 3, 5] rfl ?_
            exact J62 v1 v2 v3 v5
          · refine zk_iload_n (pc := 60) B dX8_placeOfWord_60 3 rfl rfl ?_
            exact zk_iret (pc := 61) B dX8_placeOfWord_61 rfl rfl (Nat.le_of_ble_eq_true rfl) (Nat.le_of_ble_eq_true rfl) rfl
      intro v1 v2 v3 v4 v5
      show z_K X F 6 0 0 G (z_ci M) b 0 0 8 [(0, .ref (o + 499)), (1, .int v1), (2, .int v2), (3, .int v3), (4, .int v4), (5, .int v5)] [] M (F_Tokens_placeOfWord_B8 o (F_Tokens_placeOfWord_L8 o nf8) v1 v2 v3 v4 v5 M)
      unfold F_Tokens_placeOfWord_B8
      refine zk_iload (pc := 8) B dX8_placeOfWord_8 5 rfl ?_
      refine zk_ldcs (pc := 10) B 0 (by decide) rfl rfl dX8_placeOfWord_10 ?_
      refine zk_wlen (pc := 12) B hR dX8_placeOfWord_12 (Nat.le_of_ble_eq_true rfl) ⟨Nat.le_of_ble_eq_true rfl, Nat.le_of_ble_eq_true rfl, Nat.le_of_ble_eq_true rfl, Nat.le_of_ble_eq_true rfl, Nat.le_of_ble_eq_true rfl, Nat.le_of_ble_eq_true rfl⟩ ?_
      refine zk_icmp_gt (tgt := 77) (pc := 15) B dX8_placeOfWord_15 (by decide) (fun _ => ?_) (fun _ => ?_)
      · refine zk_iconst (v := (-1)) (pc := 77) B dX8_placeOfWord_77 (by decide) ?_
        exact zk_iret (pc := 78) B dX8_placeOfWord_78 rfl rfl (Nat.le_of_ble_eq_true rfl) (Nat.le_of_ble_eq_true rfl) rfl
      · refine zk_iload (pc := 18) B dX8_placeOfWord_18 5 rfl ?_
        refine zk_ldcs (pc := 20) B 0 (by decide) rfl rfl dX8_placeOfWord_20 ?_
        refine zk_wlen (pc := 22) B hR dX8_placeOfWord_22 (Nat.le_of_ble_eq_true rfl) ⟨Nat.le_of_ble_eq_true rfl, Nat.le_of_ble_eq_true rfl, Nat.le_of_ble_eq_true rfl, Nat.le_of_ble_eq_true rfl, Nat.le_of_ble_eq_true rfl, Nat.le_of_ble_eq_true rfl⟩ ?_
        refine zk_icmp_eq (tgt := 40) (pc := 25) B dX8_placeOfWord_25 (by decide) (fun _ => ?_) (fun _ => ?_)
        · exact J40 v1 v2 v3 v4 v5
        · refine zk_ldcs (pc := 28) B 0 (by decide) rfl rfl dX8_placeOfWord_28 ?_
          refine zk_iload (pc := 30) B dX8_placeOfWord_30 5 rfl ?_
          refine zk_wch (pc := 32) B hR dX8_placeOfWord_32 (Nat.le_of_ble_eq_true rfl) ⟨Nat.le_of_ble_eq_true rfl, Nat.le_of_ble_eq_true rfl, Nat.le_of_ble_eq_true rfl, Nat.le_of_ble_eq_true rfl, Nat.le_of_ble_eq_true rfl, Nat.le_of_ble_eq_true rfl⟩ ?_
          refine zk_bipush (v := 32) (pc := 35) B dX8_placeOfWord_35 (by decide) ?_
          refine zk_icmp_ne (tgt := 71) (pc := 37) B dX8_placeOfWord_37 (by decide) (fun _ => ?_) (fun _ => ?_)
          · refine zk_iinc (y := 1) (lf := fun x1 => [(5, .int x1), (0, .ref (o + 499)), (1, .int v1), (2, .int v2), (3, .int v3), (4, .int v4)]) (pc := 71) B dX8_placeOfWord_71 5 rfl (by decide) (by decide) (fun _ => rfl) (fun x1 => ?_)
            refine zk_goto (tgt := 8) (pc := 74) B dX8_placeOfWord_74 (by decide) ?_
            refine zk_sub [1, 2, 3, 4, 5, 0] rfl ?_
            exact ih8 v1 v2 v3 v4 x1
          · exact J40 v1 v2 v3 v4 v5
  show z_K X F 6 0 0 G (z_ci M) b 0 0 0 [(0, .ref (o + 499)), (1, .int p0), (2, .int p1)] [] M (F_Tokens_placeOfWord o p0 p1 M)
  unfold F_Tokens_placeOfWord
  refine zk_iconst (v := 0) (pc := 0) B dX8_placeOfWord_0 (by decide) ?_
  refine zk_istore_n (loc' := [(3, .int 0), (0, .ref (o + 499)), (1, .int p0), (2, .int p1)]) (pc := 1) B dX8_placeOfWord_1 rfl (by decide) rfl ?_
  refine zk_iconst (v := 0) (pc := 2) B dX8_placeOfWord_2 (by decide) ?_
  refine zk_istore (loc' := [(4, .int 0), (3, .int 0), (0, .ref (o + 499)), (1, .int p0), (2, .int p1)]) (pc := 3) B dX8_placeOfWord_3 (by decide) rfl ?_
  refine zk_iconst (v := 0) (pc := 5) B dX8_placeOfWord_5 (by decide) ?_
  refine zk_istore (loc' := [(5, .int 0), (4, .int 0), (3, .int 0), (0, .ref (o + 499)), (1, .int p0), (2, .int p1)]) (pc := 6) B dX8_placeOfWord_6 (by decide) rfl ?_
  refine zk_sub [3, 4, 5, 2, 1, 0] rfl ?_
  exact L8 10000 p0 p1 0 0 0
