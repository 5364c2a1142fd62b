/-! ===== walks of the class (by program) ===== -/
set_option maxHeartbeats 4000000 in
set_option maxRecDepth 100000 in
theorem m_Desk_clear {X : z_X} (hX : z_ok X) {G : z_Gr} {a : Nat} (ha : g_Desk G a) (M : z_Mem) (b : z_Mem) (h : F_Desk_clear a M = some b) : z_Ct X yX0_clear cX0_clear 2 none ({ frames := 0, cells := 0, slots := 0, locals := 0 } : Room) [.ref a] G M (fun o9 G9 M9 => G9 = G ∧ (o9, M9) = z_cvm b) := by
  refine z_enter hX (by decide) (Nat.le_of_ble_eq_true rfl) h (fun F B hR => ?_)
  have L27 : ∀ (nf27 : Nat), ∀ (v1 : Int32) (M : z_Mem), z_K X F 2 0 0 G z_cvm b 0 0 27 [(0, .ref a), (1, .int v1)] [] M (F_Desk_clear_L27 a nf27 v1 M) := by
    intro nf27
    induction nf27 with
    | zero => intro v1 M; exact zk_none
    | succ nf27 ih27 =>
      intro v1 M
      show z_K X F 2 0 0 G z_cvm b 0 0 27 [(0, .ref a), (1, .int v1)] [] M (F_Desk_clear_B27 a (F_Desk_clear_L27 a nf27) v1 M)
      unfold F_Desk_clear_B27
      refine zk_iload_n (pc := 27) B dX0_clear_27 1 rfl rfl ?_
      refine zk_bipush (v := 10) (pc := 28) B dX0_clear_28 (by decide) ?_
      refine zk_icmp_ge (tgt := 50) (pc := 30) B dX0_clear_30 (by decide) (fun _ => ?_) (fun _ => ?_)
      · exact zk_vret (pc := 50) B dX0_clear_50 rfl (Nat.le_of_ble_eq_true rfl) (Nat.le_of_ble_eq_true rfl) rfl
      · refine zk_aload_n (pc := 33) B dX0_clear_33 0 rfl rfl ?_
        refine zk_getr (pc := 34) B kx_0 (gDesk_s ha) 5 (by decide) kf_0_9 rfl (gDesk_f5 ha) dX0_clear_34 ?_
        refine zk_iload_n (pc := 37) B dX0_clear_37 1 rfl rfl ?_
        refine zk_getsN (pc := 38) B 0 (by decide) z_nest_0 dX0_clear_38 ?_
        refine zk_iload_n (pc := 41) B dX0_clear_41 1 rfl rfl ?_
        refine zk_tald (pc := 42) B 0 (by decide) dX0_clear_42 ?_
        refine zk_iast (pc := 43) B (gDesk_t5 ha) dX0_clear_43 ?_
        refine zk_lm (fun M6 => ?_)
        refine zk_iinc (y := 1) (lf := fun x7 => [(1, .int x7), (0, .ref a)]) (pc := 44) B dX0_clear_44 1 rfl (by decide) (by decide) (fun _ => rfl) (fun x7 => ?_)
        refine zk_goto (tgt := 27) (pc := 47) B dX0_clear_47 (by decide) ?_
        refine zk_sub [1, 0] rfl ?_
        exact ih27 x7 M6
  show z_K X F 2 0 0 G z_cvm b 0 0 0 [(0, .ref a)] [] M (F_Desk_clear a M)
  unfold F_Desk_clear
  refine zk_aload_n (pc := 0) B dX0_clear_0 0 rfl rfl ?_
  refine zk_iconst (v := 0) (pc := 1) B dX0_clear_1 (by decide) ?_
  refine zk_puti (pc := 2) B kx_0 (gDesk_s ha) 0 (by decide) kf_0_29 rfl rfl rfl rfl dX0_clear_2 ?_
  refine zk_lm (fun M1 => ?_)
  refine zk_aload_n (pc := 5) B dX0_clear_5 0 rfl rfl ?_
  refine zk_iconst (v := 0) (pc := 6) B dX0_clear_6 (by decide) ?_
  refine zk_puti (pc := 7) B kx_0 (gDesk_s ha) 1 (by decide) kf_0_33 rfl rfl rfl rfl dX0_clear_7 ?_
  refine zk_lm (fun M2 => ?_)
  refine zk_aload_n (pc := 10) B dX0_clear_10 0 rfl rfl ?_
  refine zk_iconst (v := 0) (pc := 11) B dX0_clear_11 (by decide) ?_
  refine zk_puti (pc := 12) B kx_0 (gDesk_s ha) 2 (by decide) kf_0_36 rfl rfl rfl rfl dX0_clear_12 ?_
  refine zk_lm (fun M3 => ?_)
  refine zk_aload_n (pc := 15) B dX0_clear_15 0 rfl rfl ?_
  refine zk_iconst (v := 0) (pc := 16) B dX0_clear_16 (by decide) ?_
  refine zk_puti (pc := 17) B kx_0 (gDesk_s ha) 3 (by decide) kf_0_39 rfl rfl rfl rfl dX0_clear_17 ?_
  refine zk_lm (fun M4 => ?_)
  refine zk_aload_n (pc := 20) B dX0_clear_20 0 rfl rfl ?_
  refine zk_iconst (v := 0) (pc := 21) B dX0_clear_21 (by decide) ?_
  refine zk_puti (pc := 22) B kx_0 (gDesk_s ha) 4 (by decide) kf_0_42 rfl rfl rfl rfl dX0_clear_22 ?_
  refine zk_lm (fun M5 => ?_)
  refine zk_iconst (v := 0) (pc := 25) B dX0_clear_25 (by decide) ?_
  refine zk_istore_n (loc' := [(1, .int 0), (0, .ref a)]) (pc := 26) B dX0_clear_26 rfl (by decide) rfl ?_
  refine zk_sub [1, 0] rfl ?_
  exact L27 10000 0 M5
set_option maxHeartbeats 4000000 in
set_option maxRecDepth 100000 in
theorem m_Taxi_copyFrom {X : z_X} (hX : z_ok X) {G : z_Gr} {a : Nat} (ha : g_Taxi G a) {r0 : Nat} (hr0 : g_Taxi G r0) (M : z_Mem) (b : z_Mem) (h : F_Taxi_copyFrom a r0 M = some b) : z_Ct X yX6_copyFrom cX6_copyFrom 3 none ({ frames := 0, cells := 0, slots := 0, locals := 0 } : Room) [.ref a, .ref r0] G M (fun o9 G9 M9 => G9 = G ∧ (o9, M9) = z_cvm b) := by
  refine z_enter hX (by decide) (Nat.le_of_ble_eq_true rfl) h (fun F B hR => ?_)
  have L100 : ∀ (nf100 : Nat), ∀ (u1 : Nat) (hu1 : g_Taxi G u1) (v2 : Int32) (M : z_Mem), z_K X F 3 0 0 G z_cvm b 0 0 100 [(0, .ref a), (1, .ref u1), (2, .int v2)] [] M (F_Taxi_copyFrom_L100 a nf100 u1 v2 M) := by
    intro nf100
    induction nf100 with
    | zero => intro u1 hu1 v2 M; exact zk_none
    | succ nf100 ih100 =>
      intro u1 hu1 v2 M
      show z_K X F 3 0 0 G z_cvm b 0 0 100 [(0, .ref a), (1, .ref u1), (2, .int v2)] [] M (F_Taxi_copyFrom_B100 a (F_Taxi_copyFrom_L100 a nf100) u1 v2 M)
      unfold F_Taxi_copyFrom_B100
      refine zk_iload_n (pc := 100) B dX6_copyFrom_100 2 rfl rfl ?_
      refine zk_bipush (v := 6) (pc := 101) B dX6_copyFrom_101 (by decide) ?_
      refine zk_icmp_ge (tgt := 124) (pc := 103) B dX6_copyFrom_103 (by decide) (fun _ => ?_) (fun _ => ?_)
      · refine zk_aload_n (pc := 124) B dX6_copyFrom_124 0 rfl rfl ?_
        refine zk_aload_n (pc := 125) B dX6_copyFrom_125 1 rfl rfl ?_
        refine zk_geti (pc := 126) B kx_6 (gTaxi_s hu1) 11 (by decide) kf_6_46 rfl dX6_copyFrom_126 ?_
        refine zk_puti (pc := 129) B kx_6 (gTaxi_s ha) 11 (by decide) kf_6_46 rfl rfl rfl rfl dX6_copyFrom_129 ?_
        refine zk_lm (fun M12 => ?_)
        refine zk_aload_n (pc := 132) B dX6_copyFrom_132 0 rfl rfl ?_
        refine zk_aload_n (pc := 133) B dX6_copyFrom_133 1 rfl rfl ?_
        refine zk_geti (pc := 134) B kx_6 (gTaxi_s hu1) 12 (by decide) kf_6_49 rfl dX6_copyFrom_134 ?_
        refine zk_puti (pc := 137) B kx_6 (gTaxi_s ha) 12 (by decide) kf_6_49 rfl rfl rfl rfl dX6_copyFrom_137 ?_
        refine zk_lm (fun M13 => ?_)
        refine zk_aload_n (pc := 140) B dX6_copyFrom_140 0 rfl rfl ?_
        refine zk_aload_n (pc := 141) B dX6_copyFrom_141 1 rfl rfl ?_
        refine zk_geti (pc := 142) B kx_6 (gTaxi_s hu1) 13 (by decide) kf_6_52 rfl dX6_copyFrom_142 ?_
        refine zk_puti (pc := 145) B kx_6 (gTaxi_s ha) 13 (by decide) kf_6_52 rfl rfl rfl rfl dX6_copyFrom_145 ?_
        refine zk_lm (fun M14 => ?_)
        refine zk_aload_n (pc := 148) B dX6_copyFrom_148 0 rfl rfl ?_
        refine zk_aload_n (pc := 149) B dX6_copyFrom_149 1 rfl rfl ?_
        refine zk_geti (pc := 150) B kx_6 (gTaxi_s hu1) 14 (by decide) kf_6_55 rfl dX6_copyFrom_150 ?_
        refine zk_puti (pc := 153) B kx_6 (gTaxi_s ha) 14 (by decide) kf_6_55 rfl rfl rfl rfl dX6_copyFrom_153 ?_
        refine zk_lm (fun M15 => ?_)
        refine zk_aload_n (pc := 156) B dX6_copyFrom_156 0 rfl rfl ?_
        refine zk_aload_n (pc := 157) B dX6_copyFrom_157 1 rfl rfl ?_
        refine zk_geti (pc := 158) B kx_6 (gTaxi_s hu1) 15 (by decide) kf_6_58 rfl dX6_copyFrom_158 ?_
        refine zk_puti (pc := 161) B kx_6 (gTaxi_s ha) 15 (by decide) kf_6_58 rfl rfl rfl rfl dX6_copyFrom_161 ?_
        refine zk_lm (fun M16 => ?_)
        refine zk_aload_n (pc := 164) B dX6_copyFrom_164 0 rfl rfl ?_
        refine zk_aload_n (pc := 165) B dX6_copyFrom_165 1 rfl rfl ?_
        refine zk_geti (pc := 166) B kx_6 (gTaxi_s hu1) 16 (by decide) kf_6_61 rfl dX6_copyFrom_166 ?_
        refine zk_puti (pc := 169) B kx_6 (gTaxi_s ha) 16 (by decide) kf_6_61 rfl rfl rfl rfl dX6_copyFrom_169 ?_
        refine zk_lm (fun M17 => ?_)
        exact zk_vret (pc := 172) B dX6_copyFrom_172 rfl (Nat.le_of_ble_eq_true rfl) (Nat.le_of_ble_eq_true rfl) rfl
      · refine zk_aload_n (pc := 106) B dX6_copyFrom_106 0 rfl rfl ?_
        refine zk_getr (pc := 107) B kx_6 (gTaxi_s ha) 10 (by decide) kf_6_15 rfl (gTaxi_f10 ha) dX6_copyFrom_107 ?_
        refine zk_iload_n (pc := 110) B dX6_copyFrom_110 2 rfl rfl ?_
        refine zk_aload_n (pc := 111) B dX6_copyFrom_111 1 rfl rfl ?_
        refine zk_getr (pc := 112) B kx_6 (gTaxi_s hu1) 10 (by decide) kf_6_15 rfl (gTaxi_f10 hu1) dX6_copyFrom_112 ?_
        refine zk_iload_n (pc := 115) B dX6_copyFrom_115 2 rfl rfl ?_
        refine zk_iald (pc := 116) B (gTaxi_t10 hu1) dX6_copyFrom_116 ?_
        refine zk_iast (pc := 117) B (gTaxi_t10 ha) dX6_copyFrom_117 ?_
        refine zk_lm (fun M18 => ?_)
        refine zk_iinc (y := 1) (lf := fun x19 => [(2, .int x19), (0, .ref a), (1, .ref u1)]) (pc := 118) B dX6_copyFrom_118 2 rfl (by decide) (by decide) (fun _ => rfl) (fun x19 => ?_)
        refine zk_goto (tgt := 100) (pc := 121) B dX6_copyFrom_121 (by decide) ?_
        refine zk_sub [1, 2, 0] rfl ?_
        exact ih100 u1 hu1 x19 M18
  have L74 : ∀ (nf74 : Nat), ∀ (u1 : Nat) (hu1 : g_Taxi G u1) (v2 : Int32) (M : z_Mem), z_K X F 3 0 0 G z_cvm b 0 0 74 [(0, .ref a), (1, .ref u1), (2, .int v2)] [] M (F_Taxi_copyFrom_L74 a nf74 u1 v2 M) := by
    intro nf74
    induction nf74 with
    | zero => intro u1 hu1 v2 M; exact zk_none
    | succ nf74 ih74 =>
      intro u1 hu1 v2 M
      show z_K X F 3 0 0 G z_cvm b 0 0 74 [(0, .ref a), (1, .ref u1), (2, .int v2)] [] M (F_Taxi_copyFrom_B74 a (F_Taxi_copyFrom_L74 a nf74) u1 v2 M)
      unfold F_Taxi_copyFrom_B74
      refine zk_iload_n (pc := 74) B dX6_copyFrom_74 2 rfl rfl ?_
      refine zk_bipush (v := 12) (pc := 75) B dX6_copyFrom_75 (by decide) ?_
      refine zk_icmp_ge (tgt := 98) (pc := 77) B dX6_copyFrom_77 (by decide) (fun _ => ?_) (fun _ => ?_)
      · refine zk_iconst (v := 0) (pc := 98) B dX6_copyFrom_98 (by decide) ?_
        refine zk_istore_n (loc' := [(2, .int 0), (0, .ref a), (1, .ref u1)]) (pc := 99) B dX6_copyFrom_99 rfl (by decide) rfl ?_
        refine zk_sub [1, 2, 0] rfl ?_
        exact L100 10000 u1 hu1 0 M
      · refine zk_aload_n (pc := 80) B dX6_copyFrom_80 0 rfl rfl ?_
        refine zk_getr (pc := 81) B kx_6 (gTaxi_s ha) 9 (by decide) kf_6_9 rfl (gTaxi_f9 ha) dX6_copyFrom_81 ?_
        refine zk_iload_n (pc := 84) B dX6_copyFrom_84 2 rfl rfl ?_
        refine zk_aload_n (pc := 85) B dX6_copyFrom_85 1 rfl rfl ?_
        refine zk_getr (pc := 86) B kx_6 (gTaxi_s hu1) 9 (by decide) kf_6_9 rfl (gTaxi_f9 hu1) dX6_copyFrom_86 ?_
        refine zk_iload_n (pc := 89) B dX6_copyFrom_89 2 rfl rfl ?_
        refine zk_iald (pc := 90) B (gTaxi_t9 hu1) dX6_copyFrom_90 ?_
        refine zk_iast (pc := 91) B (gTaxi_t9 ha) dX6_copyFrom_91 ?_
        refine zk_lm (fun M10 => ?_)
        refine zk_iinc (y := 1) (lf := fun x11 => [(2, .int x11), (0, .ref a), (1, .ref u1)]) (pc := 92) B dX6_copyFrom_92 2 rfl (by decide) (by decide) (fun _ => rfl) (fun x11 => ?_)
        refine zk_goto (tgt := 74) (pc := 95) B dX6_copyFrom_95 (by decide) ?_
        refine zk_sub [1, 2, 0] rfl ?_
        exact ih74 u1 hu1 x11 M10
  show z_K X F 3 0 0 G z_cvm b 0 0 0 [(0, .ref a), (1, .ref r0)] [] M (F_Taxi_copyFrom a r0 M)
  unfold F_Taxi_copyFrom
  refine zk_aload_n (pc := 0) B dX6_copyFrom_0 0 rfl rfl ?_
  refine zk_aload_n (pc := 1) B dX6_copyFrom_1 1 rfl rfl ?_
  refine zk_geti (pc := 2) B kx_6 (gTaxi_s hr0) 0 (by decide) kf_6_18 rfl dX6_copyFrom_2 ?_
  refine zk_puti (pc := 5) B kx_6 (gTaxi_s ha) 0 (by decide) kf_6_18 rfl rfl rfl rfl dX6_copyFrom_5 ?_
  refine zk_lm (fun M1 => ?_)
  refine zk_aload_n (pc := 8) B dX6_copyFrom_8 0 rfl rfl ?_
  refine zk_aload_n (pc := 9) B dX6_copyFrom_9 1 rfl rfl ?_
  refine zk_geti (pc := 10) B kx_6 (gTaxi_s hr0) 1 (by decide) kf_6_22 rfl dX6_copyFrom_10 ?_
  refine zk_puti (pc := 13) B kx_6 (gTaxi_s ha) 1 (by decide) kf_6_22 rfl rfl rfl rfl dX6_copyFrom_13 ?_
  refine zk_lm (fun M2 => ?_)
  refine zk_aload_n (pc := 16) B dX6_copyFrom_16 0 rfl rfl ?_
  refine zk_aload_n (pc := 17) B dX6_copyFrom_17 1 rfl rfl ?_
  refine zk_geti (pc := 18) B kx_6 (gTaxi_s hr0) 2 (by decide) kf_6_25 rfl dX6_copyFrom_18 ?_
  refine zk_puti (pc := 21) B kx_6 (gTaxi_s ha) 2 (by decide) kf_6_25 rfl rfl rfl rfl dX6_copyFrom_21 ?_
  refine zk_lm (fun M3 => ?_)
  refine zk_aload_n (pc := 24) B dX6_copyFrom_24 0 rfl rfl ?_
  refine zk_aload_n (pc := 25) B dX6_copyFrom_25 1 rfl rfl ?_
  refine zk_geti (pc := 26) B kx_6 (gTaxi_s hr0) 3 (by decide) kf_6_28 rfl dX6_copyFrom_26 ?_
  refine zk_puti (pc := 29) B kx_6 (gTaxi_s ha) 3 (by decide) kf_6_28 rfl rfl rfl rfl dX6_copyFrom_29 ?_
  refine zk_lm (fun M4 => ?_)
  refine zk_aload_n (pc := 32) B dX6_copyFrom_32 0 rfl rfl ?_
  refine zk_aload_n (pc := 33) B dX6_copyFrom_33 1 rfl rfl ?_
  refine zk_geti (pc := 34) B kx_6 (gTaxi_s hr0) 4 (by decide) kf_6_31 rfl dX6_copyFrom_34 ?_
  refine zk_puti (pc := 37) B kx_6 (gTaxi_s ha) 4 (by decide) kf_6_31 rfl rfl rfl rfl dX6_copyFrom_37 ?_
  refine zk_lm (fun M5 => ?_)
  refine zk_aload_n (pc := 40) B dX6_copyFrom_40 0 rfl rfl ?_
  refine zk_aload_n (pc := 41) B dX6_copyFrom_41 1 rfl rfl ?_
  refine zk_geti (pc := 42) B kx_6 (gTaxi_s hr0) 5 (by decide) kf_6_34 rfl dX6_copyFrom_42 ?_
  refine zk_puti (pc := 45) B kx_6 (gTaxi_s ha) 5 (by decide) kf_6_34 rfl rfl rfl rfl dX6_copyFrom_45 ?_
  refine zk_lm (fun M6 => ?_)
  refine zk_aload_n (pc := 48) B dX6_copyFrom_48 0 rfl rfl ?_
  refine zk_aload_n (pc := 49) B dX6_copyFrom_49 1 rfl rfl ?_
  refine zk_geti (pc := 50) B kx_6 (gTaxi_s hr0) 6 (by decide) kf_6_37 rfl dX6_copyFrom_50 ?_
  refine zk_puti (pc := 53) B kx_6 (gTaxi_s ha) 6 (by decide) kf_6_37 rfl rfl rfl rfl dX6_copyFrom_53 ?_
  refine zk_lm (fun M7 => ?_)
  refine zk_aload_n (pc := 56) B dX6_copyFrom_56 0 rfl rfl ?_
  refine zk_aload_n (pc := 57) B dX6_copyFrom_57 1 rfl rfl ?_
  refine zk_geti (pc := 58) B kx_6 (gTaxi_s hr0) 7 (by decide) kf_6_40 rfl dX6_copyFrom_58 ?_
  refine zk_puti (pc := 61) B kx_6 (gTaxi_s ha) 7 (by decide) kf_6_40 rfl rfl rfl rfl dX6_copyFrom_61 ?_
  refine zk_lm (fun M8 => ?_)
  refine zk_aload_n (pc := 64) B dX6_copyFrom_64 0 rfl rfl ?_
  refine zk_aload_n (pc := 65) B dX6_copyFrom_65 1 rfl rfl ?_
  refine zk_geti (pc := 66) B kx_6 (gTaxi_s hr0) 8 (by decide) kf_6_43 rfl dX6_copyFrom_66 ?_
  refine zk_puti (pc := 69) B kx_6 (gTaxi_s ha) 8 (by decide) kf_6_43 rfl rfl rfl rfl dX6_copyFrom_69 ?_
  refine zk_lm (fun M9 => ?_)
  refine zk_iconst (v := 0) (pc := 72) B dX6_copyFrom_72 (by decide) ?_
  refine zk_istore_n (loc' := [(2, .int 0), (0, .ref a), (1, .ref r0)]) (pc := 73) B dX6_copyFrom_73 rfl (by decide) rfl ?_
  refine zk_sub [1, 2, 0] rfl ?_
  exact L74 10000 r0 hr0 0 M9
set_option maxHeartbeats 4000000 in
set_option maxRecDepth 100000 in
theorem m_Ride_copyFrom {X : z_X} (hX : z_ok X) {G : z_Gr} {a : Nat} (ha : g_Ride G a) {r0 : Nat} (hr0 : g_Ride G r0) (M : z_Mem) (b : z_Mem) (h : F_Ride_copyFrom a r0 M = some b) : z_Ct X yX5_copyFrom cX5_copyFrom 2 none ({ frames := 0, cells := 0, slots := 0, locals := 0 } : Room) [.ref a, .ref r0] G M (fun o9 G9 M9 => G9 = G ∧ (o9, M9) = z_cvm b) := by
  refine z_enter hX (by decide) (Nat.le_of_ble_eq_true rfl) h (fun F B hR => ?_)
  show z_K X F 2 0 0 G z_cvm b 0 0 0 [(0, .ref a), (1, .ref r0)] [] M (F_Ride_copyFrom a r0 M)
  unfold F_Ride_copyFrom
  refine zk_aload_n (pc := 0) B dX5_copyFrom_0 0 rfl rfl ?_
  refine zk_aload_n (pc := 1) B dX5_copyFrom_1 1 rfl rfl ?_
  refine zk_geti (pc := 2) B kx_5 (gRide_s hr0) 0 (by decide) kf_5_9 rfl dX5_copyFrom_2 ?_
  refine zk_puti (pc := 5) B kx_5 (gRide_s ha) 0 (by decide) kf_5_9 rfl rfl rfl rfl dX5_copyFrom_5 ?_
  refine zk_lm (fun M1 => ?_)
  refine zk_aload_n (pc := 8) B dX5_copyFrom_8 0 rfl rfl ?_
  refine zk_aload_n (pc := 9) B dX5_copyFrom_9 1 rfl rfl ?_
  refine zk_geti (pc := 10) B kx_5 (gRide_s hr0) 1 (by decide) kf_5_15 rfl dX5_copyFrom_10 ?_
  refine zk_puti (pc := 13) B kx_5 (gRide_s ha) 1 (by decide) kf_5_15 rfl rfl rfl rfl dX5_copyFrom_13 ?_
  refine zk_lm (fun M2 => ?_)
  refine zk_aload_n (pc := 16) B dX5_copyFrom_16 0 rfl rfl ?_
  refine zk_aload_n (pc := 17) B dX5_copyFrom_17 1 rfl rfl ?_
  refine zk_geti (pc := 18) B kx_5 (gRide_s hr0) 2 (by decide) kf_5_18 rfl dX5_copyFrom_18 ?_
  refine zk_puti (pc := 21) B kx_5 (gRide_s ha) 2 (by decide) kf_5_18 rfl rfl rfl rfl dX5_copyFrom_21 ?_
  refine zk_lm (fun M3 => ?_)
  refine zk_aload_n (pc := 24) B dX5_copyFrom_24 0 rfl rfl ?_
  refine zk_aload_n (pc := 25) B dX5_copyFrom_25 1 rfl rfl ?_
  refine zk_geti (pc := 26) B kx_5 (gRide_s hr0) 3 (by decide) kf_5_21 rfl dX5_copyFrom_26 ?_
  refine zk_puti (pc := 29) B kx_5 (gRide_s ha) 3 (by decide) kf_5_21 rfl rfl rfl rfl dX5_copyFrom_29 ?_
  refine zk_lm (fun M4 => ?_)
  refine zk_aload_n (pc := 32) B dX5_copyFrom_32 0 rfl rfl ?_
  refine zk_aload_n (pc := 33) B dX5_copyFrom_33 1 rfl rfl ?_
  refine zk_geti (pc := 34) B kx_5 (gRide_s hr0) 4 (by decide) kf_5_64 rfl dX5_copyFrom_34 ?_
  refine zk_puti (pc := 37) B kx_5 (gRide_s ha) 4 (by decide) kf_5_64 rfl rfl rfl rfl dX5_copyFrom_37 ?_
  refine zk_lm (fun M5 => ?_)
  refine zk_aload_n (pc := 40) B dX5_copyFrom_40 0 rfl rfl ?_
  refine zk_aload_n (pc := 41) B dX5_copyFrom_41 1 rfl rfl ?_
  refine zk_geti (pc := 42) B kx_5 (gRide_s hr0) 5 (by decide) kf_5_67 rfl dX5_copyFrom_42 ?_
  refine zk_puti (pc := 45) B kx_5 (gRide_s ha) 5 (by decide) kf_5_67 rfl rfl rfl rfl dX5_copyFrom_45 ?_
  refine zk_lm (fun M6 => ?_)
  refine zk_aload_n (pc := 48) B dX5_copyFrom_48 0 rfl rfl ?_
  refine zk_aload_n (pc := 49) B dX5_copyFrom_49 1 rfl rfl ?_
  refine zk_geti (pc := 50) B kx_5 (gRide_s hr0) 6 (by decide) kf_5_24 rfl dX5_copyFrom_50 ?_
  refine zk_puti (pc := 53) B kx_5 (gRide_s ha) 6 (by decide) kf_5_24 rfl rfl rfl rfl dX5_copyFrom_53 ?_
  refine zk_lm (fun M7 => ?_)
  refine zk_aload_n (pc := 56) B dX5_copyFrom_56 0 rfl rfl ?_
  refine zk_aload_n (pc := 57) B dX5_copyFrom_57 1 rfl rfl ?_
  refine zk_geti (pc := 58) B kx_5 (gRide_s hr0) 7 (by decide) kf_5_58 rfl dX5_copyFrom_58 ?_
  refine zk_puti (pc := 61) B kx_5 (gRide_s ha) 7 (by decide) kf_5_58 rfl rfl rfl rfl dX5_copyFrom_61 ?_
  refine zk_lm (fun M8 => ?_)
  refine zk_aload_n (pc := 64) B dX5_copyFrom_64 0 rfl rfl ?_
  refine zk_aload_n (pc := 65) B dX5_copyFrom_65 1 rfl rfl ?_
  refine zk_geti (pc := 66) B kx_5 (gRide_s hr0) 8 (by decide) kf_5_61 rfl dX5_copyFrom_66 ?_
  refine zk_puti (pc := 69) B kx_5 (gRide_s ha) 8 (by decide) kf_5_61 rfl rfl rfl rfl dX5_copyFrom_69 ?_
  refine zk_lm (fun M9 => ?_)
  refine zk_aload_n (pc := 72) B dX5_copyFrom_72 0 rfl rfl ?_
  refine zk_aload_n (pc := 73) B dX5_copyFrom_73 1 rfl rfl ?_
  refine zk_geti (pc := 74) B kx_5 (gRide_s hr0) 9 (by decide) kf_5_27 rfl dX5_copyFrom_74 ?_
  refine zk_puti (pc := 77) B kx_5 (gRide_s ha) 9 (by decide) kf_5_27 rfl rfl rfl rfl dX5_copyFrom_77 ?_
  refine zk_lm (fun M10 => ?_)
  refine zk_aload_n (pc := 80) B dX5_copyFrom_80 0 rfl rfl ?_
  refine zk_aload_n (pc := 81) B dX5_copyFrom_81 1 rfl rfl ?_
  refine zk_geti (pc := 82) B kx_5 (gRide_s hr0) 10 (by decide) kf_5_30 rfl dX5_copyFrom_82 ?_
  refine zk_puti (pc := 85) B kx_5 (gRide_s ha) 10 (by decide) kf_5_30 rfl rfl rfl rfl dX5_copyFrom_85 ?_
  refine zk_lm (fun M11 => ?_)
  refine zk_aload_n (pc := 88) B dX5_copyFrom_88 0 rfl rfl ?_
  refine zk_aload_n (pc := 89) B dX5_copyFrom_89 1 rfl rfl ?_
  refine zk_geti (pc := 90) B kx_5 (gRide_s hr0) 11 (by decide) kf_5_33 rfl dX5_copyFrom_90 ?_
  refine zk_puti (pc := 93) B kx_5 (gRide_s ha) 11 (by decide) kf_5_33 rfl rfl rfl rfl dX5_copyFrom_93 ?_
  refine zk_lm (fun M12 => ?_)
  refine zk_aload_n (pc := 96) B dX5_copyFrom_96 0 rfl rfl ?_
  refine zk_aload_n (pc := 97) B dX5_copyFrom_97 1 rfl rfl ?_
  refine zk_geti (pc := 98) B kx_5 (gRide_s hr0) 12 (by decide) kf_5_36 rfl dX5_copyFrom_98 ?_
  refine zk_puti (pc := 101) B kx_5 (gRide_s ha) 12 (by decide) kf_5_36 rfl rfl rfl rfl dX5_copyFrom_101 ?_
  refine zk_lm (fun M13 => ?_)
  refine zk_aload_n (pc := 104) B dX5_copyFrom_104 0 rfl rfl ?_
  refine zk_aload_n (pc := 105) B dX5_copyFrom_105 1 rfl rfl ?_
  refine zk_geti (pc := 106) B kx_5 (gRide_s hr0) 13 (by decide) kf_5_39 rfl dX5_copyFrom_106 ?_
  refine zk_chk (fun h20 => ?_)
  refine zk_puti (pc := 109) B kx_5 (gRide_s ha) 13 (by decide) kf_5_39 rfl rfl (z_n01 h20) (z_f01 h20) dX5_copyFrom_109 ?_
  refine zk_lm (fun M14 => ?_)
  refine zk_aload_n (pc := 112) B dX5_copyFrom_112 0 rfl rfl ?_
  refine zk_aload_n (pc := 113) B dX5_copyFrom_113 1 rfl rfl ?_
  refine zk_geti (pc := 114) B kx_5 (gRide_s hr0) 14 (by decide) kf_5_43 rfl dX5_copyFrom_114 ?_
  refine zk_puti (pc := 117) B kx_5 (gRide_s ha) 14 (by decide) kf_5_43 rfl rfl rfl rfl dX5_copyFrom_117 ?_
  refine zk_lm (fun M15 => ?_)
  refine zk_aload_n (pc := 120) B dX5_copyFrom_120 0 rfl rfl ?_
  refine zk_aload_n (pc := 121) B dX5_copyFrom_121 1 rfl rfl ?_
  refine zk_geti (pc := 122) B kx_5 (gRide_s hr0) 15 (by decide) kf_5_46 rfl dX5_copyFrom_122 ?_
  refine zk_puti (pc := 125) B kx_5 (gRide_s ha) 15 (by decide) kf_5_46 rfl rfl rfl rfl dX5_copyFrom_125 ?_
  refine zk_lm (fun M16 => ?_)
  refine zk_aload_n (pc := 128) B dX5_copyFrom_128 0 rfl rfl ?_
  refine zk_aload_n (pc := 129) B dX5_copyFrom_129 1 rfl rfl ?_
  refine zk_geti (pc := 130) B kx_5 (gRide_s hr0) 16 (by decide) kf_5_49 rfl dX5_copyFrom_130 ?_
  refine zk_puti (pc := 133) B kx_5 (gRide_s ha) 16 (by decide) kf_5_49 rfl rfl rfl rfl dX5_copyFrom_133 ?_
  refine zk_lm (fun M17 => ?_)
  refine zk_aload_n (pc := 136) B dX5_copyFrom_136 0 rfl rfl ?_
  refine zk_aload_n (pc := 137) B dX5_copyFrom_137 1 rfl rfl ?_
  refine zk_geti (pc := 138) B kx_5 (gRide_s hr0) 17 (by decide) kf_5_52 rfl dX5_copyFrom_138 ?_
  refine zk_puti (pc := 141) B kx_5 (gRide_s ha) 17 (by decide) kf_5_52 rfl rfl rfl rfl dX5_copyFrom_141 ?_
  refine zk_lm (fun M18 => ?_)
  refine zk_aload_n (pc := 144) B dX5_copyFrom_144 0 rfl rfl ?_
  refine zk_aload_n (pc := 145) B dX5_copyFrom_145 1 rfl rfl ?_
  refine zk_geti (pc := 146) B kx_5 (gRide_s hr0) 18 (by decide) kf_5_55 rfl dX5_copyFrom_146 ?_
  refine zk_puti (pc := 149) B kx_5 (gRide_s ha) 18 (by decide) kf_5_55 rfl rfl rfl rfl dX5_copyFrom_149 ?_
  refine zk_lm (fun M19 => ?_)
  exact zk_vret (pc := 152) B dX5_copyFrom_152 rfl (Nat.le_of_ble_eq_true rfl) (Nat.le_of_ble_eq_true rfl) rfl
set_option maxHeartbeats 4000000 in
set_option maxRecDepth 100000 in
theorem m_Desk_copyFrom {X : z_X} (hX : z_ok X) {G : z_Gr} {a : Nat} (ha : g_Desk G a) {r0 : Nat} (hr0 : g_Desk G r0) (M : z_Mem) (b : z_Mem) (h : F_Desk_copyFrom a r0 M = some b) : z_Ct X yX0_copyFrom cX0_copyFrom 3 none ({ frames := 1, cells := 0, slots := 0, locals := 22 } : Room) [.ref a, .ref r0] G M (fun o9 G9 M9 => G9 = G ∧ (o9, M9) = z_cvm b) := by
  refine z_enter hX (by decide) (Nat.le_of_ble_eq_true rfl) h (fun F B hR => ?_)
  have L104 : ∀ (nf104 : Nat), ∀ (u1 : Nat) (hu1 : g_Desk G u1) (v2 : Int32) (M : z_Mem), z_K X F 3 0 0 G z_cvm b 0 0 104 [(0, .ref a), (1, .ref u1), (2, .int v2)] [] M (F_Desk_copyFrom_L104 a nf104 u1 v2 M) := by
    intro nf104
    induction nf104 with
    | zero => intro u1 hu1 v2 M; exact zk_none
    | succ nf104 ih104 =>
      intro u1 hu1 v2 M
      show z_K X F 3 0 0 G z_cvm b 0 0 104 [(0, .ref a), (1, .ref u1), (2, .int v2)] [] M (F_Desk_copyFrom_B104 a (F_Desk_copyFrom_L104 a nf104) u1 v2 M)
      unfold F_Desk_copyFrom_B104
      refine zk_iload_n (pc := 104) B dX0_copyFrom_104 2 rfl rfl ?_
      refine zk_aload_n (pc := 105) B dX0_copyFrom_105 0 rfl rfl ?_
      refine zk_geti (pc := 106) B kx_0 (gDesk_s ha) 4 (by decide) kf_0_42 rfl dX0_copyFrom_106 ?_
      refine zk_icmp_ge (tgt := 139) (pc := 109) B dX0_copyFrom_109 (by decide) (fun _ => ?_) (fun _ => ?_)
      · exact zk_vret (pc := 139) B dX0_copyFrom_139 rfl (Nat.le_of_ble_eq_true rfl) (Nat.le_of_ble_eq_true rfl) rfl
      · refine zk_iload_n (pc := 112) B dX0_copyFrom_112 2 rfl rfl ?_
        refine zk_bipush (v := 24) (pc := 113) B dX0_copyFrom_113 (by decide) ?_
        refine zk_icmp_ge (tgt := 139) (pc := 115) B dX0_copyFrom_115 (by decide) (fun _ => ?_) (fun _ => ?_)
        · exact zk_vret (pc := 139) B dX0_copyFrom_139 rfl (Nat.le_of_ble_eq_true rfl) (Nat.le_of_ble_eq_true rfl) rfl
        · refine zk_aload_n (pc := 118) B dX0_copyFrom_118 0 rfl rfl ?_
          refine zk_getr (pc := 119) B kx_0 (gDesk_s ha) 7 (by decide) kf_0_23 rfl (gDesk_f7 ha) dX0_copyFrom_119 ?_
          refine zk_iload_n (pc := 122) B dX0_copyFrom_122 2 rfl rfl ?_
          refine zk_aald (pc := 123) B (gDesk_t7 ha) (by decide) (by decide) (fun h15 => gDesk_e7 ha _ (z_lt h15)) dX0_copyFrom_123 (fun h15 => zk_lr (fun t14 h15e => ?_))
          have ht14 : g_Ride G t14 := by rw [h15e]; exact gDesk_k7 ha _ (z_lt h15)
          refine zk_aload_n (pc := 124) B dX0_copyFrom_124 1 rfl rfl ?_
          refine zk_getr (pc := 125) B kx_0 (gDesk_s hu1) 7 (by decide) kf_0_23 rfl (gDesk_f7 hu1) dX0_copyFrom_125 ?_
          refine zk_iload_n (pc := 128) B dX0_copyFrom_128 2 rfl rfl ?_
          refine zk_aald (pc := 129) B (gDesk_t7 hu1) (by decide) (by decide) (fun h17 => gDesk_e7 hu1 _ (z_lt h17)) dX0_copyFrom_129 (fun h17 => zk_lr (fun t16 h17e => ?_))
          have ht16 : g_Ride G t16 := by rw [h17e]; exact gDesk_k7 hu1 _ (z_lt h17)
          refine zk_cvm (pc := 130) (k' := 0) (n' := 0) B rfl rfl (Nat.le_of_ble_eq_true rfl) (Nat.le_of_ble_eq_true rfl) (fun b hb => zr_V B hR kV_yX5_copyFrom km_0_52 kx_5 (gRide_s ht14) [.ref t16] rfl rfl (Nat.le_of_ble_eq_true rfl) dX0_copyFrom_130 (m_Ride_copyFrom hX ht14 ht16 M b hb) ⟨Nat.le_of_ble_eq_true rfl, Nat.le_of_ble_eq_true rfl⟩ ⟨Nat.le_of_ble_eq_true rfl, Nat.le_of_ble_eq_true rfl⟩) (fun M18 => ?_)
          refine zk_iinc (y := 1) (lf := fun x19 => [(2, .int x19), (0, .ref a), (1, .ref u1)]) (pc := 133) B dX0_copyFrom_133 2 rfl (by decide) (by decide) (fun _ => rfl) (fun x19 => ?_)
          refine zk_goto (tgt := 104) (pc := 136) B dX0_copyFrom_136 (by decide) ?_
          refine zk_sub [1, 2, 0] rfl ?_
          exact ih104 u1 hu1 x19 M18
  have J102 : ∀ (u1 : Nat) (hu1 : g_Desk G u1) (M : z_Mem), z_K X F 3 0 0 G z_cvm b 0 0 102 [(0, .ref a), (1, .ref u1)] [] M (F_Desk_copyFrom_J102 a u1 M) := by
    intro u1 hu1 M
    unfold F_Desk_copyFrom_J102
    refine zk_iconst (v := 0) (pc := 102) B dX0_copyFrom_102 (by decide) ?_
    refine zk_istore_n (loc' := [(2, .int 0), (0, .ref a), (1, .ref u1)]) (pc := 103) B dX0_copyFrom_103 rfl (by decide) rfl ?_
    refine zk_sub [1, 2, 0] rfl ?_
    exact L104 10000 u1 hu1 0 M
  have L68 : ∀ (nf68 : Nat), ∀ (u1 : Nat) (hu1 : g_Desk G u1) (v2 : Int32) (M : z_Mem), z_K X F 3 0 0 G z_cvm b 0 0 68 [(0, .ref a), (1, .ref u1), (2, .int v2)] [] M (F_Desk_copyFrom_L68 a nf68 u1 v2 M) := by
    intro nf68
    induction nf68 with
    | zero => intro u1 hu1 v2 M; exact zk_none
    | succ nf68 ih68 =>
      intro u1 hu1 v2 M
      show z_K X F 3 0 0 G z_cvm b 0 0 68 [(0, .ref a), (1, .ref u1), (2, .int v2)] [] M (F_Desk_copyFrom_B68 a (F_Desk_copyFrom_L68 a nf68) u1 v2 M)
      unfold F_Desk_copyFrom_B68
      refine zk_iload_n (pc := 68) B dX0_copyFrom_68 2 rfl rfl ?_
      refine zk_aload_n (pc := 69) B dX0_copyFrom_69 0 rfl rfl ?_
      refine zk_geti (pc := 70) B kx_0 (gDesk_s ha) 3 (by decide) kf_0_39 rfl dX0_copyFrom_70 ?_
      refine zk_icmp_ge (tgt := 102) (pc := 73) B dX0_copyFrom_73 (by decide) (fun _ => ?_) (fun _ => ?_)
      · refine zk_sub [0, 1] rfl ?_
        exact J102 u1 hu1 M
      · refine zk_iload_n (pc := 76) B dX0_copyFrom_76 2 rfl rfl ?_
        refine zk_iconst (v := 4) (pc := 77) B dX0_copyFrom_77 (by decide) ?_
        refine zk_icmp_ge (tgt := 102) (pc := 78) B dX0_copyFrom_78 (by decide) (fun _ => ?_) (fun _ => ?_)
        · refine zk_sub [0, 1] rfl ?_
          exact J102 u1 hu1 M
        · refine zk_aload_n (pc := 81) B dX0_copyFrom_81 0 rfl rfl ?_
          refine zk_getr (pc := 82) B kx_0 (gDesk_s ha) 6 (by decide) kf_0_17 rfl (gDesk_f6 ha) dX0_copyFrom_82 ?_
          refine zk_iload_n (pc := 85) B dX0_copyFrom_85 2 rfl rfl ?_
          refine zk_aald (pc := 86) B (gDesk_t6 ha) (by decide) (by decide) (fun h9 => gDesk_e6 ha _ (z_lt h9)) dX0_copyFrom_86 (fun h9 => zk_lr (fun t8 h9e => ?_))
          have ht8 : g_Taxi G t8 := by rw [h9e]; exact gDesk_k6 ha _ (z_lt h9)
          refine zk_aload_n (pc := 87) B dX0_copyFrom_87 1 rfl rfl ?_
          refine zk_getr (pc := 88) B kx_0 (gDesk_s hu1) 6 (by decide) kf_0_17 rfl (gDesk_f6 hu1) dX0_copyFrom_88 ?_
          refine zk_iload_n (pc := 91) B dX0_copyFrom_91 2 rfl rfl ?_
          refine zk_aald (pc := 92) B (gDesk_t6 hu1) (by decide) (by decide) (fun h11 => gDesk_e6 hu1 _ (z_lt h11)) dX0_copyFrom_92 (fun h11 => zk_lr (fun t10 h11e => ?_))
          have ht10 : g_Taxi G t10 := by rw [h11e]; exact gDesk_k6 hu1 _ (z_lt h11)
          refine zk_cvm (pc := 93) (k' := 0) (n' := 0) B rfl rfl (Nat.le_of_ble_eq_true rfl) (Nat.le_of_ble_eq_true rfl) (fun b hb => zr_V B hR kV_yX6_copyFrom km_0_48 kx_6 (gTaxi_s ht8) [.ref t10] rfl rfl (Nat.le_of_ble_eq_true rfl) dX0_copyFrom_93 (m_Taxi_copyFrom hX ht8 ht10 M b hb) ⟨Nat.le_of_ble_eq_true rfl, Nat.le_of_ble_eq_true rfl⟩ ⟨Nat.le_of_ble_eq_true rfl, Nat.le_of_ble_eq_true rfl⟩) (fun M12 => ?_)
          refine zk_iinc (y := 1) (lf := fun x13 => [(2, .int x13), (0, .ref a), (1, .ref u1)]) (pc := 96) B dX0_copyFrom_96 2 rfl (by decide) (by decide) (fun _ => rfl) (fun x13 => ?_)
          refine zk_goto (tgt := 68) (pc := 99) B dX0_copyFrom_99 (by decide) ?_
          refine zk_sub [1, 2, 0] rfl ?_
          exact ih68 u1 hu1 x13 M12
  have L42 : ∀ (nf42 : Nat), ∀ (u1 : Nat) (hu1 : g_Desk G u1) (v2 : Int32) (M : z_Mem), z_K X F 3 0 0 G z_cvm b 0 0 42 [(0, .ref a), (1, .ref u1), (2, .int v2)] [] M (F_Desk_copyFrom_L42 a nf42 u1 v2 M) := by
    intro nf42
    induction nf42 with
    | zero => intro u1 hu1 v2 M; exact zk_none
    | succ nf42 ih42 =>
      intro u1 hu1 v2 M
      show z_K X F 3 0 0 G z_cvm b 0 0 42 [(0, .ref a), (1, .ref u1), (2, .int v2)] [] M (F_Desk_copyFrom_B42 a (F_Desk_copyFrom_L42 a nf42) u1 v2 M)
      unfold F_Desk_copyFrom_B42
      refine zk_iload_n (pc := 42) B dX0_copyFrom_42 2 rfl rfl ?_
      refine zk_bipush (v := 10) (pc := 43) B dX0_copyFrom_43 (by decide) ?_
      refine zk_icmp_ge (tgt := 66) (pc := 45) B dX0_copyFrom_45 (by decide) (fun _ => ?_) (fun _ => ?_)
      · refine zk_iconst (v := 0) (pc := 66) B dX0_copyFrom_66 (by decide) ?_
        refine zk_istore_n (loc' := [(2, .int 0), (0, .ref a), (1, .ref u1)]) (pc := 67) B dX0_copyFrom_67 rfl (by decide) rfl ?_
        refine zk_sub [1, 2, 0] rfl ?_
        exact L68 10000 u1 hu1 0 M
      · refine zk_aload_n (pc := 48) B dX0_copyFrom_48 0 rfl rfl ?_
        refine zk_getr (pc := 49) B kx_0 (gDesk_s ha) 5 (by decide) kf_0_9 rfl (gDesk_f5 ha) dX0_copyFrom_49 ?_
        refine zk_iload_n (pc := 52) B dX0_copyFrom_52 2 rfl rfl ?_
        refine zk_aload_n (pc := 53) B dX0_copyFrom_53 1 rfl rfl ?_
        refine zk_getr (pc := 54) B kx_0 (gDesk_s hu1) 5 (by decide) kf_0_9 rfl (gDesk_f5 hu1) dX0_copyFrom_54 ?_
        refine zk_iload_n (pc := 57) B dX0_copyFrom_57 2 rfl rfl ?_
        refine zk_iald (pc := 58) B (gDesk_t5 hu1) dX0_copyFrom_58 ?_
        refine zk_iast (pc := 59) B (gDesk_t5 ha) dX0_copyFrom_59 ?_
        refine zk_lm (fun M6 => ?_)
        refine zk_iinc (y := 1) (lf := fun x7 => [(2, .int x7), (0, .ref a), (1, .ref u1)]) (pc := 60) B dX0_copyFrom_60 2 rfl (by decide) (by decide) (fun _ => rfl) (fun x7 => ?_)
        refine zk_goto (tgt := 42) (pc := 63) B dX0_copyFrom_63 (by decide) ?_
        refine zk_sub [1, 2, 0] rfl ?_
        exact ih42 u1 hu1 x7 M6
  show z_K X F 3 0 0 G z_cvm b 0 0 0 [(0, .ref a), (1, .ref r0)] [] M (F_Desk_copyFrom a r0 M)
  unfold F_Desk_copyFrom
  refine zk_aload_n (pc := 0) B dX0_copyFrom_0 0 rfl rfl ?_
  refine zk_aload_n (pc := 1) B dX0_copyFrom_1 1 rfl rfl ?_
  refine zk_geti (pc := 2) B kx_0 (gDesk_s hr0) 0 (by decide) kf_0_29 rfl dX0_copyFrom_2 ?_
  refine zk_puti (pc := 5) B kx_0 (gDesk_s ha) 0 (by decide) kf_0_29 rfl rfl rfl rfl dX0_copyFrom_5 ?_
  refine zk_lm (fun M1 => ?_)
  refine zk_aload_n (pc := 8) B dX0_copyFrom_8 0 rfl rfl ?_
  refine zk_aload_n (pc := 9) B dX0_copyFrom_9 1 rfl rfl ?_
  refine zk_geti (pc := 10) B kx_0 (gDesk_s hr0) 1 (by decide) kf_0_33 rfl dX0_copyFrom_10 ?_
  refine zk_puti (pc := 13) B kx_0 (gDesk_s ha) 1 (by decide) kf_0_33 rfl rfl rfl rfl dX0_copyFrom_13 ?_
  refine zk_lm (fun M2 => ?_)
  refine zk_aload_n (pc := 16) B dX0_copyFrom_16 0 rfl rfl ?_
  refine zk_aload_n (pc := 17) B dX0_copyFrom_17 1 rfl rfl ?_
  refine zk_geti (pc := 18) B kx_0 (gDesk_s hr0) 2 (by decide) kf_0_36 rfl dX0_copyFrom_18 ?_
  refine zk_puti (pc := 21) B kx_0 (gDesk_s ha) 2 (by decide) kf_0_36 rfl rfl rfl rfl dX0_copyFrom_21 ?_
  refine zk_lm (fun M3 => ?_)
  refine zk_aload_n (pc := 24) B dX0_copyFrom_24 0 rfl rfl ?_
  refine zk_aload_n (pc := 25) B dX0_copyFrom_25 1 rfl rfl ?_
  refine zk_geti (pc := 26) B kx_0 (gDesk_s hr0) 3 (by decide) kf_0_39 rfl dX0_copyFrom_26 ?_
  refine zk_puti (pc := 29) B kx_0 (gDesk_s ha) 3 (by decide) kf_0_39 rfl rfl rfl rfl dX0_copyFrom_29 ?_
  refine zk_lm (fun M4 => ?_)
  refine zk_aload_n (pc := 32) B dX0_copyFrom_32 0 rfl rfl ?_
  refine zk_aload_n (pc := 33) B dX0_copyFrom_33 1 rfl rfl ?_
  refine zk_geti (pc := 34) B kx_0 (gDesk_s hr0) 4 (by decide) kf_0_42 rfl dX0_copyFrom_34 ?_
  refine zk_puti (pc := 37) B kx_0 (gDesk_s ha) 4 (by decide) kf_0_42 rfl rfl rfl rfl dX0_copyFrom_37 ?_
  refine zk_lm (fun M5 => ?_)
  refine zk_iconst (v := 0) (pc := 40) B dX0_copyFrom_40 (by decide) ?_
  refine zk_istore_n (loc' := [(2, .int 0), (0, .ref a), (1, .ref r0)]) (pc := 41) B dX0_copyFrom_41 rfl (by decide) rfl ?_
  refine zk_sub [1, 2, 0] rfl ?_
  exact L42 10000 r0 hr0 0 M5
set_option maxHeartbeats 4000000 in
set_option maxRecDepth 100000 in
theorem m_Desk_ruleValue {X : z_X} (hX : z_ok X) {G : z_Gr} {a : Nat} (ha : g_Desk G a) (p0 : Int32) (M : z_Mem) (b : Int32) (h : F_Desk_ruleValue a p0 M = some b) : z_Ct X yX0_ruleValue cX0_ruleValue 2 (some .int) ({ frames := 0, cells := 0, slots := 0, locals := 0 } : Room) [.ref a, .int p0] G M (fun o9 G9 M9 => G9 = G ∧ (o9, M9) = (z_ci M) b) := by
  refine z_enter hX (by decide) (Nat.le_of_ble_eq_true rfl) h (fun F B hR => ?_)
  show z_K X F 2 0 0 G (z_ci M) b 0 0 0 [(0, .ref a), (1, .int p0)] [] M (F_Desk_ruleValue a p0 M)
  unfold F_Desk_ruleValue
  refine zk_iload_n (pc := 0) B dX0_ruleValue_0 1 rfl rfl ?_
  refine zk_if_lt (tgt := 19) (pc := 1) B dX0_ruleValue_1 (by decide) (fun _ => ?_) (fun _ => ?_)
  · refine zk_iconst (v := 0) (pc := 19) B dX0_ruleValue_19 (by decide) ?_
    exact zk_iret (pc := 20) B dX0_ruleValue_20 rfl rfl (Nat.le_of_ble_eq_true rfl) (Nat.le_of_ble_eq_true rfl) rfl
  · refine zk_iload_n (pc := 4) B dX0_ruleValue_4 1 rfl rfl ?_
    refine zk_bipush (v := 10) (pc := 5) B dX0_ruleValue_5 (by decide) ?_
    refine zk_icmp_ge (tgt := 19) (pc := 7) B dX0_ruleValue_7 (by decide) (fun _ => ?_) (fun _ => ?_)
    · refine zk_iconst (v := 0) (pc := 19) B dX0_ruleValue_19 (by decide) ?_
      exact zk_iret (pc := 20) B dX0_ruleValue_20 rfl rfl (Nat.le_of_ble_eq_true rfl) (Nat.le_of_ble_eq_true rfl) rfl
    · refine zk_aload_n (pc := 10) B dX0_ruleValue_10 0 rfl rfl ?_
      refine zk_getr (pc := 11) B kx_0 (gDesk_s ha) 5 (by decide) kf_0_9 rfl (gDesk_f5 ha) dX0_ruleValue_11 ?_
      refine zk_iload_n (pc := 14) B dX0_ruleValue_14 1 rfl rfl ?_
      refine zk_iald (pc := 15) B (gDesk_t5 ha) dX0_ruleValue_15 ?_
      refine zk_goto (tgt := 20) (pc := 16) B dX0_ruleValue_16 (by decide) ?_
      exact zk_iret (pc := 20) B dX0_ruleValue_20 rfl rfl (Nat.le_of_ble_eq_true rfl) (Nat.le_of_ble_eq_true rfl) rfl
set_option maxHeartbeats 4000000 in
set_option maxRecDepth 100000 in
theorem m_Desk_changeRule {X : z_X} (hX : z_ok X) {G : z_Gr} {a : Nat} (ha : g_Desk G a) (p0 : Int32) (p1 : Int32) (M : z_Mem) (b : z_Mem) (h : F_Desk_changeRule a p0 p1 M = some b) : z_Ct X yX0_changeRule cX0_changeRule 3 none ({ frames := 0, cells := 0, slots := 0, locals := 0 } : Room) [.ref a, .int p0, .int p1] G M (fun o9 G9 M9 => G9 = G ∧ (o9, M9) = z_cvm b) := by
  refine z_enter hX (by decide) (Nat.le_of_ble_eq_true rfl) h (fun F B hR => ?_)
  show z_K X F 3 0 0 G z_cvm b 0 0 0 [(0, .ref a), (1, .int p0), (2, .int p1)] [] M (F_Desk_changeRule a p0 p1 M)
  unfold F_Desk_changeRule
  refine zk_iload_n (pc := 0) B dX0_changeRule_0 1 rfl rfl ?_
  refine zk_if_lt (tgt := 17) (pc := 1) B dX0_changeRule_1 (by decide) (fun _ => ?_) (fun _ => ?_)
  · exact zk_vret (pc := 17) B dX0_changeRule_17 rfl (Nat.le_of_ble_eq_true rfl) (Nat.le_of_ble_eq_true rfl) rfl
  · refine zk_iload_n (pc := 4) B dX0_changeRule_4 1 rfl rfl ?_
    refine zk_bipush (v := 10) (pc := 5) B dX0_changeRule_5 (by decide) ?_
    refine zk_icmp_ge (tgt := 17) (pc := 7) B dX0_changeRule_7 (by decide) (fun _ => ?_) (fun _ => ?_)
    · exact zk_vret (pc := 17) B dX0_changeRule_17 rfl (Nat.le_of_ble_eq_true rfl) (Nat.le_of_ble_eq_true rfl) rfl
    · refine zk_aload_n (pc := 10) B dX0_changeRule_10 0 rfl rfl ?_
      refine zk_getr (pc := 11) B kx_0 (gDesk_s ha) 5 (by decide) kf_0_9 rfl (gDesk_f5 ha) dX0_changeRule_11 ?_
      refine zk_iload_n (pc := 14) B dX0_changeRule_14 1 rfl rfl ?_
      refine zk_iload_n (pc := 15) B dX0_changeRule_15 2 rfl rfl ?_
      refine zk_iast (pc := 16) B (gDesk_t5 ha) dX0_changeRule_16 ?_
      refine zk_lm (fun M1 => ?_)
      exact zk_vret (pc := 17) B dX0_changeRule_17 rfl (Nat.le_of_ble_eq_true rfl) (Nat.le_of_ble_eq_true rfl) rfl
set_option maxHeartbeats 4000000 in
set_option maxRecDepth 100000 in
theorem m_Desk_hasTaxi {X : z_X} (hX : z_ok X) {G : z_Gr} {a : Nat} (ha : g_Desk G a) (p0 : Int32) (M : z_Mem) (b : Int32) (h : F_Desk_hasTaxi a p0 M = some b) : z_Ct X yX0_hasTaxi cX0_hasTaxi 2 (some .boolean) ({ frames := 0, cells := 0, slots := 0, locals := 0 } : Room) [.ref a, .int p0] G M (fun o9 G9 M9 => G9 = G ∧ (o9, M9) = (z_ci M) b) := by
  refine z_enter hX (by decide) (Nat.le_of_ble_eq_true rfl) h (fun F B hR => ?_)
  show z_K X F 2 0 0 G (z_ci M) b 0 0 0 [(0, .ref a), (1, .int p0)] [] M (F_Desk_hasTaxi a p0 M)
  unfold F_Desk_hasTaxi
  refine zk_iload_n (pc := 0) B dX0_hasTaxi_0 1 rfl rfl ?_
  refine zk_if_lt (tgt := 21) (pc := 1) B dX0_hasTaxi_1 (by decide) (fun _ => ?_) (fun _ => ?_)
  · refine zk_iconst (v := 0) (pc := 21) B dX0_hasTaxi_21 (by decide) ?_
    exact zk_iret (pc := 22) B dX0_hasTaxi_22 rfl rfl (Nat.le_of_ble_eq_true rfl) (Nat.le_of_ble_eq_true rfl) rfl
  · refine zk_iload_n (pc := 4) B dX0_hasTaxi_4 1 rfl rfl ?_
    refine zk_aload_n (pc := 5) B dX0_hasTaxi_5 0 rfl rfl ?_
    refine zk_geti (pc := 6) B kx_0 (gDesk_s ha) 3 (by decide) kf_0_39 rfl dX0_hasTaxi_6 ?_
    refine zk_icmp_ge (tgt := 21) (pc := 9) B dX0_hasTaxi_9 (by decide) (fun _ => ?_) (fun _ => ?_)
    · refine zk_iconst (v := 0) (pc := 21) B dX0_hasTaxi_21 (by decide) ?_
      exact zk_iret (pc := 22) B dX0_hasTaxi_22 rfl rfl (Nat.le_of_ble_eq_true rfl) (Nat.le_of_ble_eq_true rfl) rfl
    · refine zk_iload_n (pc := 12) B dX0_hasTaxi_12 1 rfl rfl ?_
      refine zk_iconst (v := 4) (pc := 13) B dX0_hasTaxi_13 (by decide) ?_
      refine zk_icmp_ge (tgt := 21) (pc := 14) B dX0_hasTaxi_14 (by decide) (fun _ => ?_) (fun _ => ?_)
      · refine zk_iconst (v := 0) (pc := 21) B dX0_hasTaxi_21 (by decide) ?_
        exact zk_iret (pc := 22) B dX0_hasTaxi_22 rfl rfl (Nat.le_of_ble_eq_true rfl) (Nat.le_of_ble_eq_true rfl) rfl
      · refine zk_iconst (v := 1) (pc := 17) B dX0_hasTaxi_17 (by decide) ?_
        refine zk_goto (tgt := 22) (pc := 18) B dX0_hasTaxi_18 (by decide) ?_
        exact zk_iret (pc := 22) B dX0_hasTaxi_22 rfl rfl (Nat.le_of_ble_eq_true rfl) (Nat.le_of_ble_eq_true rfl) rfl
set_option maxHeartbeats 4000000 in
set_option maxRecDepth 100000 in
theorem m_Desk_countInState {X : z_X} (hX : z_ok X) {G : z_Gr} {a : Nat} (ha : g_Desk G a) (p0 : Int32) (M : z_Mem) (b : Int32) (h : F_Desk_countInState a p0 M = some b) : z_Ct X yX0_countInState cX0_countInState 4 (some .int) ({ frames := 0, cells := 0, slots := 0, locals := 0 } : Room) [.ref a, .int p0] G M (fun o9 G9 M9 => G9 = G ∧ (o9, M9) = (z_ci M) b) := by
  refine z_enter hX (by decide) (Nat.le_of_ble_eq_true rfl) h (fun F B hR => ?_)
  have L4 : ∀ (nf4 : Nat), ∀ (v1 : Int32) (v2 : Int32) (v3 : Int32), z_K X F 4 0 0 G (z_ci M) b 0 0 4 [(0, .ref a), (1, .int v1), (2, .int v2), (3, .int v3)] [] M (F_Desk_countInState_L4 a nf4 v1 v2 v3 M) := by
    intro nf4
    induction nf4 with
    | zero => intro v1 v2 v3; exact zk_none
    | succ nf4 ih4 =>
      intro v1 v2 v3
      show z_K X F 4 0 0 G (z_ci M) b 0 0 4 [(0, .ref a), (1, .int v1), (2, .int v2), (3, .int v3)] [] M (F_Desk_countInState_B4 a (F_Desk_countInState_L4 a nf4) v1 v2 v3 M)
      unfold F_Desk_countInState_B4
      refine zk_iload_n (pc := 4) B dX0_countInState_4 3 rfl rfl ?_
      refine zk_aload_n (pc := 5) B dX0_countInState_5 0 rfl rfl ?_
      refine zk_geti (pc := 6) B kx_0 (gDesk_s ha) 4 (by decide) kf_0_42 rfl dX0_countInState_6 ?_
      refine zk_icmp_ge (tgt := 40) (pc := 9) B dX0_countInState_9 (by decide) (fun _ => ?_) (fun _ => ?_)
      · refine zk_iload_n (pc := 40) B dX0_countInState_40 2 rfl rfl ?_
        exact zk_iret (pc := 41) B dX0_countInState_41 rfl rfl (Nat.le_of_ble_eq_true rfl) (Nat.le_of_ble_eq_true rfl) rfl
      · refine zk_iload_n (pc := 12) B dX0_countInState_12 3 rfl rfl ?_
        refine zk_bipush (v := 24) (pc := 13) B dX0_countInState_13 (by decide) ?_
        refine zk_icmp_ge (tgt := 40) (pc := 15) B dX0_countInState_15 (by decide) (fun _ => ?_) (fun _ => ?_)
        · refine zk_iload_n (pc := 40) B dX0_countInState_40 2 rfl rfl ?_
          exact zk_iret (pc := 41) B dX0_countInState_41 rfl rfl (Nat.le_of_ble_eq_true rfl) (Nat.le_of_ble_eq_true rfl) rfl
        · refine zk_aload_n (pc := 18) B dX0_countInState_18 0 rfl rfl ?_
          refine zk_getr (pc := 19) B kx_0 (gDesk_s ha) 7 (by decide) kf_0_23 rfl (gDesk_f7 ha) dX0_countInState_19 ?_
          refine zk_iload_n (pc := 22) B dX0_countInState_22 3 rfl rfl ?_
          refine zk_aald (pc := 23) B (gDesk_t7 ha) (by decide) (by decide) (fun h2 => gDesk_e7 ha _ (z_lt h2)) dX0_countInState_23 (fun h2 => zk_lr (fun t1 h2e => ?_))
          have ht1 : g_Ride G t1 := by rw [h2e]; exact gDesk_k7 ha _ (z_lt h2)
          refine zk_geti (pc := 24) B kx_5 (gRide_s ht1) 0 (by decide) kf_0_55 rfl dX0_countInState_24 ?_
          refine zk_iload_n (pc := 27) B dX0_countInState_27 1 rfl rfl ?_
          refine zk_icmp_ne (tgt := 34) (pc := 28) B dX0_countInState_28 (by decide) (fun _ => ?_) (fun _ => ?_)
          · refine zk_iinc (y := 1) (lf := fun x3 => [(3, .int x3), (0, .ref a), (1, .int v1), (2, .int v2)]) (pc := 34) B dX0_countInState_34 3 rfl (by decide) (by decide) (fun _ => rfl) (fun x3 => ?_)
            refine zk_goto (tgt := 4) (pc := 37) B dX0_countInState_37 (by decide) ?_
            refine zk_sub [1, 2, 3, 0] rfl ?_
            exact ih4 v1 v2 x3
          · refine zk_iinc (y := 1) (lf := fun x4 => [(2, .int x4), (0, .ref a), (1, .int v1), (3, .int v3)]) (pc := 31) B dX0_countInState_31 2 rfl (by decide) (by decide) (fun _ => rfl) (fun x4 => ?_)
            refine zk_iinc (y := 1) (lf := fun x5 => [(3, .int x5), (2, .int x4), (0, .ref a), (1, .int v1)]) (pc := 34) B dX0_countInState_34 3 rfl (by decide) (by decide) (fun _ => rfl) (fun x5 => ?_)
            refine zk_goto (tgt := 4) (pc := 37) B dX0_countInState_37 (by decide) ?_
            refine zk_sub [2, 3, 1, 0] rfl ?_
            exact ih4 v1 x4 x5
  show z_K X F 4 0 0 G (z_ci M) b 0 0 0 [(0, .ref a), (1, .int p0)] [] M (F_Desk_countInState a p0 M)
  unfold F_Desk_countInState
  refine zk_iconst (v := 0) (pc := 0) B dX0_countInState_0 (by decide) ?_
  refine zk_istore_n (loc' := [(2, .int 0), (0, .ref a), (1, .int p0)]) (pc := 1) B dX0_countInState_1 rfl (by decide) rfl ?_
  refine zk_iconst (v := 0) (pc := 2) B dX0_countInState_2 (by decide) ?_
  refine zk_istore_n (loc' := [(3, .int 0), (2, .int 0), (0, .ref a), (1, .int p0)]) (pc := 3) B dX0_countInState_3 rfl (by decide) rfl ?_
  refine zk_sub [2, 3, 1, 0] rfl ?_
  exact L4 10000 p0 0 0
set_option maxHeartbeats 4000000 in
set_option maxRecDepth 100000 in
theorem m_Desk_stopsInAllRoutes {X : z_X} (hX : z_ok X) {G : z_Gr} {a : Nat} (ha : g_Desk G a) (M : z_Mem) (b : Int32) (h : F_Desk_stopsInAllRoutes a M = some b) : z_Ct X yX0_stopsInAllRoutes cX0_stopsInAllRoutes 3 (some .int) ({ frames := 0, cells := 0, slots := 0, locals := 0 } : Room) [.ref a] G M (fun o9 G9 M9 => G9 = G ∧ (o9, M9) = (z_ci M) b) := by
  refine z_enter hX (by decide) (Nat.le_of_ble_eq_true rfl) h (fun F B hR => ?_)
  have L4 : ∀ (nf4 : Nat), ∀ (v1 : Int32) (v2 : Int32), z_K X F 3 0 0 G (z_ci M) b 0 0 4 [(0, .ref a), (1, .int v1), (2, .int v2)] [] M (F_Desk_stopsInAllRoutes_L4 a nf4 v1 v2 M) := by
    intro nf4
    induction nf4 with
    | zero => intro v1 v2; exact zk_none
    | succ nf4 ih4 =>
      intro v1 v2
      show z_K X F 3 0 0 G (z_ci M) b 0 0 4 [(0, .ref a), (1, .int v1), (2, .int v2)] [] M (F_Desk_stopsInAllRoutes_B4 a (F_Desk_stopsInAllRoutes_L4 a nf4) v1 v2 M)
      unfold F_Desk_stopsInAllRoutes_B4
      refine zk_iload_n (pc := 4) B dX0_stopsInAllRoutes_4 2 rfl rfl ?_
      refine zk_aload_n (pc := 5) B dX0_stopsInAllRoutes_5 0 rfl rfl ?_
      refine zk_geti (pc := 6) B kx_0 (gDesk_s ha) 3 (by decide) kf_0_39 rfl dX0_stopsInAllRoutes_6 ?_
      refine zk_icmp_ge (tgt := 35) (pc := 9) B dX0_stopsInAllRoutes_9 (by decide) (fun _ => ?_) (fun _ => ?_)
      · refine zk_iload_n (pc := 35) B dX0_stopsInAllRoutes_35 1 rfl rfl ?_
        exact zk_iret (pc := 36) B dX0_stopsInAllRoutes_36 rfl rfl (Nat.le_of_ble_eq_true rfl) (Nat.le_of_ble_eq_true rfl) rfl
      · refine zk_iload_n (pc := 12) B dX0_stopsInAllRoutes_12 2 rfl rfl ?_
        refine zk_iconst (v := 4) (pc := 13) B dX0_stopsInAllRoutes_13 (by decide) ?_
        refine zk_icmp_ge (tgt := 35) (pc := 14) B dX0_stopsInAllRoutes_14 (by decide) (fun _ => ?_) (fun _ => ?_)
        · refine zk_iload_n (pc := 35) B dX0_stopsInAllRoutes_35 1 rfl rfl ?_
          exact zk_iret (pc := 36) B dX0_stopsInAllRoutes_36 rfl rfl (Nat.le_of_ble_eq_true rfl) (Nat.le_of_ble_eq_true rfl) rfl
        · refine zk_iload_n (pc := 17) B dX0_stopsInAllRoutes_17 1 rfl rfl ?_
          refine zk_aload_n (pc := 18) B dX0_stopsInAllRoutes_18 0 rfl rfl ?_
          refine zk_getr (pc := 19) B kx_0 (gDesk_s ha) 6 (by decide) kf_0_17 rfl (gDesk_f6 ha) dX0_stopsInAllRoutes_19 ?_
          refine zk_iload_n (pc := 22) B dX0_stopsInAllRoutes_22 2 rfl rfl ?_
          refine zk_aald (pc := 23) B (gDesk_t6 ha) (by decide) (by decide) (fun h2 => gDesk_e6 ha _ (z_lt h2)) dX0_stopsInAllRoutes_23 (fun h2 => zk_lr (fun t1 h2e => ?_))
          have ht1 : g_Taxi G t1 := by rw [h2e]; exact gDesk_k6 ha _ (z_lt h2)
          refine zk_geti (pc := 24) B kx_6 (gTaxi_s ht1) 7 (by decide) kf_0_61 rfl dX0_stopsInAllRoutes_24 ?_
          refine zk_iadd (pc := 27) B dX0_stopsInAllRoutes_27 ?_
          refine zk_li (fun x3 => ?_)
          refine zk_istore_n (loc' := [(1, .int x3), (0, .ref a), (2, .int v2)]) (pc := 28) B dX0_stopsInAllRoutes_28 rfl (by decide) rfl ?_
          refine zk_iinc (y := 1) (lf := fun x4 => [(2, .int x4), (1, .int x3), (0, .ref a)]) (pc := 29) B dX0_stopsInAllRoutes_29 2 rfl (by decide) (by decide) (fun _ => rfl) (fun x4 => ?_)
          refine zk_goto (tgt := 4) (pc := 32) B dX0_stopsInAllRoutes_32 (by decide) ?_
          refine zk_sub [2, 1, 0] rfl ?_
          exact ih4 x3 x4
  show z_K X F 3 0 0 G (z_ci M) b 0 0 0 [(0, .ref a)] [] M (F_Desk_stopsInAllRoutes a M)
  unfold F_Desk_stopsInAllRoutes
  refine zk_iconst (v := 0) (pc := 0) B dX0_stopsInAllRoutes_0 (by decide) ?_
  refine zk_istore_n (loc' := [(1, .int 0), (0, .ref a)]) (pc := 1) B dX0_stopsInAllRoutes_1 rfl (by decide) rfl ?_
  refine zk_iconst (v := 0) (pc := 2) B dX0_stopsInAllRoutes_2 (by decide) ?_
  refine zk_istore_n (loc' := [(2, .int 0), (1, .int 0), (0, .ref a)]) (pc := 3) B dX0_stopsInAllRoutes_3 rfl (by decide) rfl ?_
  refine zk_sub [2, 1, 0] rfl ?_
  exact L4 10000 0 0
set_option maxHeartbeats 4000000 in
set_option maxRecDepth 100000 in
theorem m_Taxi_partyAt {X : z_X} (hX : z_ok X) {G : z_Gr} {a : Nat} (ha : g_Taxi G a) (p0 : Int32) (M : z_Mem) (b : Int32) (h : F_Taxi_partyAt a p0 M = some b) : z_Ct X yX6_partyAt cX6_partyAt 2 (some .int) ({ frames := 0, cells := 0, slots := 0, locals := 0 } : Room) [.ref a, .int p0] G M (fun o9 G9 M9 => G9 = G ∧ (o9, M9) = (z_ci M) b) := by
  refine z_enter hX (by decide) (Nat.le_of_ble_eq_true rfl) h (fun F B hR => ?_)
  show z_K X F 2 0 0 G (z_ci M) b 0 0 0 [(0, .ref a), (1, .int p0)] [] M (F_Taxi_partyAt a p0 M)
  unfold F_Taxi_partyAt
  refine zk_iload_n (pc := 0) B dX6_partyAt_0 1 rfl rfl ?_
  refine zk_if_lt (tgt := 27) (pc := 1) B dX6_partyAt_1 (by decide) (fun _ => ?_) (fun _ => ?_)
  · refine zk_iconst (v := (-1)) (pc := 27) B dX6_partyAt_27 (by decide) ?_
    exact zk_iret (pc := 28) B dX6_partyAt_28 rfl rfl (Nat.le_of_ble_eq_true rfl) (Nat.le_of_ble_eq_true rfl) rfl
  · refine zk_iload_n (pc := 4) B dX6_partyAt_4 1 rfl rfl ?_
    refine zk_aload_n (pc := 5) B dX6_partyAt_5 0 rfl rfl ?_
    refine zk_geti (pc := 6) B kx_6 (gTaxi_s ha) 8 (by decide) kf_6_43 rfl dX6_partyAt_6 ?_
    refine zk_icmp_ge (tgt := 27) (pc := 9) B dX6_partyAt_9 (by decide) (fun _ => ?_) (fun _ => ?_)
    · refine zk_iconst (v := (-1)) (pc := 27) B dX6_partyAt_27 (by decide) ?_
      exact zk_iret (pc := 28) B dX6_partyAt_28 rfl rfl (Nat.le_of_ble_eq_true rfl) (Nat.le_of_ble_eq_true rfl) rfl
    · refine zk_iload_n (pc := 12) B dX6_partyAt_12 1 rfl rfl ?_
      refine zk_bipush (v := 6) (pc := 13) B dX6_partyAt_13 (by decide) ?_
      refine zk_icmp_ge (tgt := 27) (pc := 15) B dX6_partyAt_15 (by decide) (fun _ => ?_) (fun _ => ?_)
      · refine zk_iconst (v := (-1)) (pc := 27) B dX6_partyAt_27 (by decide) ?_
        exact zk_iret (pc := 28) B dX6_partyAt_28 rfl rfl (Nat.le_of_ble_eq_true rfl) (Nat.le_of_ble_eq_true rfl) rfl
      · refine zk_aload_n (pc := 18) B dX6_partyAt_18 0 rfl rfl ?_
        refine zk_getr (pc := 19) B kx_6 (gTaxi_s ha) 10 (by decide) kf_6_15 rfl (gTaxi_f10 ha) dX6_partyAt_19 ?_
        refine zk_iload_n (pc := 22) B dX6_partyAt_22 1 rfl rfl ?_
        refine zk_iald (pc := 23) B (gTaxi_t10 ha) dX6_partyAt_23 ?_
        refine zk_goto (tgt := 28) (pc := 24) B dX6_partyAt_24 (by decide) ?_
        exact zk_iret (pc := 28) B dX6_partyAt_28 rfl rfl (Nat.le_of_ble_eq_true rfl) (Nat.le_of_ble_eq_true rfl) rfl
set_option maxHeartbeats 4000000 in
set_option maxRecDepth 100000 in
theorem m_Desk_rideAt {X : z_X} (hX : z_ok X) {G : z_Gr} {a : Nat} (ha : g_Desk G a) (p0 : Int32) (M : z_Mem) (b : Nat) (h : F_Desk_rideAt a p0 M = some b) : z_Ct X yX0_rideAt cX0_rideAt 2 (some (.object "SharedTaxis$Ride")) ({ frames := 0, cells := 0, slots := 0, locals := 0 } : Room) [.ref a, .int p0] G M (fun o9 G9 M9 => G9 = G ∧ (o9, M9) = (z_cr M) b) := by
  refine z_enter hX (by decide) (Nat.le_of_ble_eq_true rfl) h (fun F B hR => ?_)
  have J19 : ∀ (s0 : Int32), z_K X F 2 0 0 G (z_cr M) b 0 0 19 [] [.int s0, .ref (a + 3)] M (F_Desk_rideAt_J19 a s0 M) := by
    intro s0
    unfold F_Desk_rideAt_J19
    refine zk_aald (pc := 19) B (gDesk_t7 ha) (by decide) (by decide) (fun h2 => gDesk_e7 ha _ (z_lt h2)) dX0_rideAt_19 (fun h2 => zk_lr (fun t1 h2e => ?_))
    have ht1 : g_Ride G t1 := by rw [h2e]; exact gDesk_k7 ha _ (z_lt h2)
    exact zk_aret (pc := 20) B dX0_rideAt_20 rfl (Nat.le_of_ble_eq_true rfl) (Nat.le_of_ble_eq_true rfl) rfl
  have J18 : z_K X F 2 0 0 G (z_cr M) b 0 0 18 [] [.ref (a + 3)] M (F_Desk_rideAt_J18 a M) := by
    unfold F_Desk_rideAt_J18
    refine zk_iconst (v := 0) (pc := 18) B dX0_rideAt_18 (by decide) ?_
    exact J19 0
  show z_K X F 2 0 0 G (z_cr M) b 0 0 0 [(0, .ref a), (1, .int p0)] [] M (F_Desk_rideAt a p0 M)
  unfold F_Desk_rideAt
  refine zk_aload_n (pc := 0) B dX0_rideAt_0 0 rfl rfl ?_
  refine zk_getr (pc := 1) B kx_0 (gDesk_s ha) 7 (by decide) kf_0_23 rfl (gDesk_f7 ha) dX0_rideAt_1 ?_
  refine zk_iload_n (pc := 4) B dX0_rideAt_4 1 rfl rfl ?_
  refine zk_if_lt (tgt := 18) (pc := 5) B dX0_rideAt_5 (by decide) (fun _ => ?_) (fun _ => ?_)
  · refine zk_sub [] rfl ?_
    exact J18
  · refine zk_iload_n (pc := 8) B dX0_rideAt_8 1 rfl rfl ?_
    refine zk_bipush (v := 24) (pc := 9) B dX0_rideAt_9 (by decide) ?_
    refine zk_icmp_ge (tgt := 18) (pc := 11) B dX0_rideAt_11 (by decide) (fun _ => ?_) (fun _ => ?_)
    · refine zk_sub [] rfl ?_
      exact J18
    · refine zk_iload_n (pc := 14) B dX0_rideAt_14 1 rfl rfl ?_
      refine zk_goto (tgt := 19) (pc := 15) B dX0_rideAt_15 (by decide) ?_
      refine zk_sub [] rfl ?_
      exact J19 p0
set_option maxHeartbeats 4000000 in
set_option maxRecDepth 100000 in
theorem m_Desk_personsAboard {X : z_X} (hX : z_ok X) {G : z_Gr} {a : Nat} (ha : g_Desk G a) {r0 : Nat} (hr0 : g_Taxi G r0) (M : z_Mem) (b : Int32) (h : F_Desk_personsAboard a r0 M = some b) : z_Ct X yX0_personsAboard cX0_personsAboard 4 (some .int) ({ frames := 1, cells := 0, slots := 0, locals := 21 } : Room) [.ref a, .ref r0] G M (fun o9 G9 M9 => G9 = G ∧ (o9, M9) = (z_ci M) b) := by
  refine z_enter hX (by decide) (Nat.le_of_ble_eq_true rfl) h (fun F B hR => ?_)
  have L4 : ∀ (nf4 : Nat), ∀ (u1 : Nat) (hu1 : g_Taxi G u1) (v2 : Int32) (v3 : Int32), z_K X F 4 0 0 G (z_ci M) b 0 0 4 [(0, .ref a), (1, .ref u1), (2, .int v2), (3, .int v3)] [] M (F_Desk_personsAboard_L4 a nf4 u1 v2 v3 M) := by
    intro nf4
    induction nf4 with
    | zero => intro u1 hu1 v2 v3; exact zk_none
    | succ nf4 ih4 =>
      intro u1 hu1 v2 v3
      show z_K X F 4 0 0 G (z_ci M) b 0 0 4 [(0, .ref a), (1, .ref u1), (2, .int v2), (3, .int v3)] [] M (F_Desk_personsAboard_B4 a (F_Desk_personsAboard_L4 a nf4) u1 v2 v3 M)
      unfold F_Desk_personsAboard_B4
      refine zk_iload_n (pc := 4) B dX0_personsAboard_4 3 rfl rfl ?_
      refine zk_aload_n (pc := 5) B dX0_personsAboard_5 1 rfl rfl ?_
      refine zk_geti (pc := 6) B kx_6 (gTaxi_s hu1) 8 (by decide) kf_0_64 rfl dX0_personsAboard_6 ?_
      refine zk_icmp_ge (tgt := 33) (pc := 9) B dX0_personsAboard_9 (by decide) (fun _ => ?_) (fun _ => ?_)
      · refine zk_iload_n (pc := 33) B dX0_personsAboard_33 2 rfl rfl ?_
        exact zk_iret (pc := 34) B dX0_personsAboard_34 rfl rfl (Nat.le_of_ble_eq_true rfl) (Nat.le_of_ble_eq_true rfl) rfl
      · refine zk_iload_n (pc := 12) B dX0_personsAboard_12 2 rfl rfl ?_
        refine zk_aload_n (pc := 13) B dX0_personsAboard_13 0 rfl rfl ?_
        refine zk_aload_n (pc := 14) B dX0_personsAboard_14 1 rfl rfl ?_
        refine zk_iload_n (pc := 15) B dX0_personsAboard_15 3 rfl rfl ?_
        refine zk_cpi (pc := 16) (k' := 0) (n' := 0) B rfl rfl (Nat.le_of_ble_eq_true rfl) (Nat.le_of_ble_eq_true rfl) (fun b hb => zr_V B hR kV_yX6_partyAt km_0_67 kx_6 (gTaxi_s hu1) [.int v3] rfl rfl (Nat.le_of_ble_eq_true rfl) dX0_personsAboard_16 (m_Taxi_partyAt hX hu1 v3 M b hb) ⟨Nat.le_of_ble_eq_true rfl, Nat.le_of_ble_eq_true rfl⟩ ⟨Nat.le_of_ble_eq_true rfl, Nat.le_of_ble_eq_true rfl⟩) (fun x1 _ => ?_)
        refine zk_cpr (pc := 19) (k' := 0) (n' := 0) B rfl rfl (Nat.le_of_ble_eq_true rfl) (Nat.le_of_ble_eq_true rfl) (fun b hb => zr_V B hR kV_yX0_rideAt km_0_71 kx_0 (gDesk_s ha) [.int x1] rfl rfl (Nat.le_of_ble_eq_true rfl) dX0_personsAboard_19 (m_Desk_rideAt hX ha x1 M b hb) ⟨Nat.le_of_ble_eq_true rfl, Nat.le_of_ble_eq_true rfl⟩ ⟨Nat.le_of_ble_eq_true rfl, Nat.le_of_ble_eq_true rfl⟩) (fun t2 h3 => ?_)
        have ht2 : g_Ride G t2 := fr_Desk_rideAt ha h3
        refine zk_geti (pc := 22) B kx_5 (gRide_s ht2) 3 (by decide) kf_0_75 rfl dX0_personsAboard_22 ?_
        refine zk_iadd (pc := 25) B dX0_personsAboard_25 ?_
        refine zk_li (fun x4 => ?_)
        refine zk_istore_n (loc' := [(2, .int x4), (0, .ref a), (1, .ref u1), (3, .int v3)]) (pc := 26) B dX0_personsAboard_26 rfl (by decide) rfl ?_
        refine zk_iinc (y := 1) (lf := fun x5 => [(3, .int x5), (2, .int x4), (0, .ref a), (1, .ref u1)]) (pc := 27) B dX0_personsAboard_27 3 rfl (by decide) (by decide) (fun _ => rfl) (fun x5 => ?_)
        refine zk_goto (tgt := 4) (pc := 30) B dX0_personsAboard_30 (by decide) ?_
        refine zk_sub [2, 3, 1, 0] rfl ?_
        exact ih4 u1 hu1 x4 x5
  show z_K X F 4 0 0 G (z_ci M) b 0 0 0 [(0, .ref a), (1, .ref r0)] [] M (F_Desk_personsAboard a r0 M)
  unfold F_Desk_personsAboard
  refine zk_iconst (v := 0) (pc := 0) B dX0_personsAboard_0 (by decide) ?_
  refine zk_istore_n (loc' := [(2, .int 0), (0, .ref a), (1, .ref r0)]) (pc := 1) B dX0_personsAboard_1 rfl (by decide) rfl ?_
  refine zk_iconst (v := 0) (pc := 2) B dX0_personsAboard_2 (by decide) ?_
  refine zk_istore_n (loc' := [(3, .int 0), (2, .int 0), (0, .ref a), (1, .ref r0)]) (pc := 3) B dX0_personsAboard_3 rfl (by decide) rfl ?_
  refine zk_sub [2, 3, 1, 0] rfl ?_
  exact L4 10000 r0 hr0 0 0
set_option maxHeartbeats 4000000 in
set_option maxRecDepth 100000 in
theorem m_Desk_pickupOf {X : z_X} (hX : z_ok X) {G : z_Gr} (p0 : Int32) (M : z_Mem) (b : Int32) (h : F_Desk_pickupOf p0 M = some b) : z_Ct X yX0_pickupOf cX0_pickupOf 1 (some .int) ({ frames := 0, cells := 0, slots := 0, locals := 0 } : Room) [.int p0] G M (fun o9 G9 M9 => G9 = G ∧ (o9, M9) = (z_ci M) b) := by
  refine z_enter hX (by decide) (Nat.le_of_ble_eq_true rfl) h (fun F B hR => ?_)
  show z_K X F 1 0 0 G (z_ci M) b 0 0 0 [(0, .int p0)] [] M (F_Desk_pickupOf p0 M)
  unfold F_Desk_pickupOf
  refine zk_iload_n (pc := 0) B dX0_pickupOf_0 0 rfl rfl ?_
  refine zk_iconst (v := 2) (pc := 1) B dX0_pickupOf_1 (by decide) ?_
  refine zk_imul (pc := 2) B dX0_pickupOf_2 ?_
  refine zk_iconst (v := 1) (pc := 3) B dX0_pickupOf_3 (by decide) ?_
  refine zk_iadd (pc := 4) B dX0_pickupOf_4 ?_
  exact zk_iret (pc := 5) B dX0_pickupOf_5 rfl rfl (Nat.le_of_ble_eq_true rfl) (Nat.le_of_ble_eq_true rfl) rfl
set_option maxHeartbeats 4000000 in
set_option maxRecDepth 100000 in
theorem m_Desk_dropOf {X : z_X} (hX : z_ok X) {G : z_Gr} (p0 : Int32) (M : z_Mem) (b : Int32) (h : F_Desk_dropOf p0 M = some b) : z_Ct X yX0_dropOf cX0_dropOf 1 (some .int) ({ frames := 0, cells := 0, slots := 0, locals := 0 } : Room) [.int p0] G M (fun o9 G9 M9 => G9 = G ∧ (o9, M9) = (z_ci M) b) := by
  refine z_enter hX (by decide) (Nat.le_of_ble_eq_true rfl) h (fun F B hR => ?_)
  show z_K X F 1 0 0 G (z_ci M) b 0 0 0 [(0, .int p0)] [] M (F_Desk_dropOf p0 M)
  unfold F_Desk_dropOf
  refine zk_iload_n (pc := 0) B dX0_dropOf_0 0 rfl rfl ?_
  refine zk_iconst (v := 2) (pc := 1) B dX0_dropOf_1 (by decide) ?_
  refine zk_imul (pc := 2) B dX0_dropOf_2 ?_
  exact zk_iret (pc := 3) B dX0_dropOf_3 rfl rfl (Nat.le_of_ble_eq_true rfl) (Nat.le_of_ble_eq_true rfl) rfl
set_option maxHeartbeats 4000000 in
set_option maxRecDepth 100000 in
theorem m_Desk_isPickup {X : z_X} (hX : z_ok X) {G : z_Gr} (p0 : Int32) (M : z_Mem) (b : Int32) (h : F_Desk_isPickup p0 M = some b) : z_Ct X yX0_isPickup cX0_isPickup 1 (some .boolean) ({ frames := 0, cells := 0, slots := 0, locals := 0 } : Room) [.int p0] G M (fun o9 G9 M9 => G9 = G ∧ (o9, M9) = (z_ci M) b) := by
  refine z_enter hX (by decide) (Nat.le_of_ble_eq_true rfl) h (fun F B hR => ?_)
  show z_K X F 1 0 0 G (z_ci M) b 0 0 0 [(0, .int p0)] [] M (F_Desk_isPickup p0 M)
  unfold F_Desk_isPickup
  refine zk_iload_n (pc := 0) B dX0_isPickup_0 0 rfl rfl ?_
  refine zk_iconst (v := 1) (pc := 1) B dX0_isPickup_1 (by decide) ?_
  refine zk_iand (pc := 2) B dX0_isPickup_2 ?_
  refine zk_iconst (v := 1) (pc := 3) B dX0_isPickup_3 (by decide) ?_
  refine zk_icmp_ne (tgt := 11) (pc := 4) B dX0_isPickup_4 (by decide) (fun _ => ?_) (fun _ => ?_)
  · refine zk_iconst (v := 0) (pc := 11) B dX0_isPickup_11 (by decide) ?_
    exact zk_iret (pc := 12) B dX0_isPickup_12 rfl rfl (Nat.le_of_ble_eq_true rfl) (Nat.le_of_ble_eq_true rfl) rfl
  · refine zk_iconst (v := 1) (pc := 7) B dX0_isPickup_7 (by decide) ?_
    refine zk_goto (tgt := 12) (pc := 8) B dX0_isPickup_8 (by decide) ?_
    exact zk_iret (pc := 12) B dX0_isPickup_12 rfl rfl (Nat.le_of_ble_eq_true rfl) (Nat.le_of_ble_eq_true rfl) rfl
set_option maxHeartbeats 4000000 in
set_option maxRecDepth 100000 in
theorem m_Desk_rideNumber {X : z_X} (hX : z_ok X) {G : z_Gr} (p0 : Int32) (M : z_Mem) (b : Int32) (h : F_Desk_rideNumber p0 M = some b) : z_Ct X yX0_rideNumber cX0_rideNumber 1 (some .int) ({ frames := 0, cells := 0, slots := 0, locals := 0 } : Room) [.int p0] G M (fun o9 G9 M9 => G9 = G ∧ (o9, M9) = (z_ci M) b) := by
  refine z_enter hX (by decide) (Nat.le_of_ble_eq_true rfl) h (fun F B hR => ?_)
  show z_K X F 1 0 0 G (z_ci M) b 0 0 0 [(0, .int p0)] [] M (F_Desk_rideNumber p0 M)
  unfold F_Desk_rideNumber
  refine zk_iload_n (pc := 0) B dX0_rideNumber_0 0 rfl rfl ?_
  refine zk_iconst (v := 1) (pc := 1) B dX0_rideNumber_1 (by decide) ?_
  refine zk_ishr (pc := 2) B dX0_rideNumber_2 ?_
  exact zk_iret (pc := 3) B dX0_rideNumber_3 rfl rfl (Nat.le_of_ble_eq_true rfl) (Nat.le_of_ble_eq_true rfl) rfl
set_option maxHeartbeats 4000000 in
set_option maxRecDepth 100000 in
theorem m_Desk_zoneOfStop {X : z_X} (hX : z_ok X) {G : z_Gr} {a : Nat} (ha : g_Desk G a) (p0 : Int32) (M : z_Mem) (b : Int32) (h : F_Desk_zoneOfStop a p0 M = some b) : z_Ct X yX0_zoneOfStop cX0_zoneOfStop 3 (some .int) ({ frames := 1, cells := 0, slots := 0, locals := 21 } : Room) [.ref a, .int p0] G M (fun o9 G9 M9 => G9 = G ∧ (o9, M9) = (z_ci M) b) := by
  refine z_enter hX (by decide) (Nat.le_of_ble_eq_true rfl) h (fun F B hR => ?_)
  show z_K X F 3 0 0 G (z_ci M) b 0 0 0 [(0, .ref a), (1, .int p0)] [] M (F_Desk_zoneOfStop a p0 M)
  unfold F_Desk_zoneOfStop
  refine zk_aload_n (pc := 0) B dX0_zoneOfStop_0 0 rfl rfl ?_
  refine zk_iload_n (pc := 1) B dX0_zoneOfStop_1 1 rfl rfl ?_
  refine zk_cpi (pc := 2) (k' := 0) (n' := 0) B rfl rfl (Nat.le_of_ble_eq_true rfl) (Nat.le_of_ble_eq_true rfl) (fun b hb => zr_S B hR kS_yX0_rideNumber km_0_78 [.int p0] rfl rfl (Nat.le_of_ble_eq_true rfl) dX0_zoneOfStop_2 (m_Desk_rideNumber hX p0 M b hb) ⟨Nat.le_of_ble_eq_true rfl, Nat.le_of_ble_eq_true rfl⟩ ⟨Nat.le_of_ble_eq_true rfl, Nat.le_of_ble_eq_true rfl⟩) (fun x1 _ => ?_)
  refine zk_cpr (pc := 5) (k' := 0) (n' := 0) B rfl rfl (Nat.le_of_ble_eq_true rfl) (Nat.le_of_ble_eq_true rfl) (fun b hb => zr_V B hR kV_yX0_rideAt km_0_71 kx_0 (gDesk_s ha) [.int x1] rfl rfl (Nat.le_of_ble_eq_true rfl) dX0_zoneOfStop_5 (m_Desk_rideAt hX ha x1 M b hb) ⟨Nat.le_of_ble_eq_true rfl, Nat.le_of_ble_eq_true rfl⟩ ⟨Nat.le_of_ble_eq_true rfl, Nat.le_of_ble_eq_true rfl⟩) (fun t2 h3 => ?_)
  have ht2 : g_Ride G t2 := fr_Desk_rideAt ha h3
  refine zk_astore_n (loc' := [(2, .ref t2), (0, .ref a), (1, .int p0)]) (pc := 8) B dX0_zoneOfStop_8 rfl (by decide) rfl ?_
  refine zk_iload_n (pc := 9) B dX0_zoneOfStop_9 2 rfl rfl ?_
  refine zk_cpi (pc := 10) (k' := 0) (n' := 0) B rfl rfl (Nat.le_of_ble_eq_true rfl) (Nat.le_of_ble_eq_true rfl) (fun b hb => zr_S B hR kS_yX0_isPickup km_0_81 [.int p0] rfl rfl (Nat.le_of_ble_eq_true rfl) dX0_zoneOfStop_10 (m_Desk_isPickup hX p0 M b hb) ⟨Nat.le_of_ble_eq_true rfl, Nat.le_of_ble_eq_true rfl⟩ ⟨Nat.le_of_ble_eq_true rfl, Nat.le_of_ble_eq_true rfl⟩) (fun x4 _ => ?_)
  refine zk_if_eq (tgt := 23) (pc := 13) B dX0_zoneOfStop_13 (by decide) (fun _ => ?_) (fun _ => ?_)
  · refine zk_aload_n (pc := 23) B dX0_zoneOfStop_23 0 rfl rfl ?_
    refine zk_geti (pc := 24) B kx_5 (gRide_s ht2) 2 (by decide) kf_0_88 rfl dX0_zoneOfStop_24 ?_
    exact zk_iret (pc := 27) B dX0_zoneOfStop_27 rfl rfl (Nat.le_of_ble_eq_true rfl) (Nat.le_of_ble_eq_true rfl) rfl
  · refine zk_aload_n (pc := 16) B dX0_zoneOfStop_16 0 rfl rfl ?_
    refine zk_geti (pc := 17) B kx_5 (gRide_s ht2) 1 (by decide) kf_0_85 rfl dX0_zoneOfStop_17 ?_
    refine zk_goto (tgt := 27) (pc := 20) B dX0_zoneOfStop_20 (by decide) ?_
    exact zk_iret (pc := 27) B dX0_zoneOfStop_27 rfl rfl (Nat.le_of_ble_eq_true rfl) (Nat.le_of_ble_eq_true rfl) rfl
set_option maxHeartbeats 4000000 in
set_option maxRecDepth 100000 in
theorem m_History_clear {X : z_X} (hX : z_ok X) {G : z_Gr} {o : Nat} (hG : g_Sys G o) (M : z_Mem) (b : z_Mem) (h : F_History_clear o M = some b) : z_Ct X yX1_clear cX1_clear 1 none ({ frames := 0, cells := 0, slots := 0, locals := 0 } : Room) [.ref (o + 45)] G M (fun o9 G9 M9 => G9 = G ∧ (o9, M9) = z_cvm b) := by
  refine z_enter hX (by decide) (Nat.le_of_ble_eq_true rfl) h (fun F B hR => ?_)
  show z_K X F 1 0 0 G z_cvm b 0 0 0 [(0, .ref (o + 45))] [] M (F_History_clear o M)
  unfold F_History_clear
  refine zk_aload_n (pc := 0) B dX1_clear_0 0 rfl rfl ?_
  refine zk_iconst (v := 0) (pc := 1) B dX1_clear_1 (by decide) ?_
  refine zk_puti (pc := 2) B kx_1 (gHistory_s hG) 0 (by decide) kf_1_9 rfl rfl rfl rfl dX1_clear_2 ?_
  refine zk_lm (fun M1 => ?_)
  refine zk_aload_n (pc := 5) B dX1_clear_5 0 rfl rfl ?_
  refine zk_iconst (v := 0) (pc := 6) B dX1_clear_6 (by decide) ?_
  refine zk_puti (pc := 7) B kx_1 (gHistory_s hG) 1 (by decide) kf_1_15 rfl rfl rfl rfl dX1_clear_7 ?_
  refine zk_lm (fun M2 => ?_)
  exact zk_vret (pc := 10) B dX1_clear_10 rfl (Nat.le_of_ble_eq_true rfl) (Nat.le_of_ble_eq_true rfl) rfl
set_option maxHeartbeats 4000000 in
set_option maxRecDepth 100000 in
theorem m_History_note {X : z_X} (hX : z_ok X) {G : z_Gr} {o : Nat} (hG : g_Sys G o) {r0 : Nat} (hr0 : g_Desk G r0) (M : z_Mem) (b : z_Mem) (h : F_History_note o r0 M = some b) : z_Ct X yX1_note cX1_note 2 none ({ frames := 2, cells := 0, slots := 0, locals := 44 } : Room) [.ref (o + 45), .ref r0] G M (fun o9 G9 M9 => G9 = G ∧ (o9, M9) = z_cvm b) := by
  refine z_enter hX (by decide) (Nat.le_of_ble_eq_true rfl) h (fun F B hR => ?_)
  have J21 : ∀ (u1 : Nat) (hu1 : g_Desk G u1) (M : z_Mem), z_K X F 2 0 0 G z_cvm b 0 0 21 [(0, .ref (o + 45)), (1, .ref u1)] [] M (F_History_note_J21 o u1 M) := by
    intro u1 hu1 M
    unfold F_History_note_J21
    refine zk_aload_n (pc := 21) B dX1_note_21 0 rfl rfl ?_
    refine zk_getr (pc := 22) B kx_1 (gHistory_s hG) 2 (by decide) kf_1_20 rfl (gHistory_f2 hG) dX1_note_22 ?_
    refine zk_aload_n (pc := 25) B dX1_note_25 0 rfl rfl ?_
    refine zk_geti (pc := 26) B kx_1 (gHistory_s hG) 1 (by decide) kf_1_15 rfl dX1_note_26 ?_
    refine zk_aald (pc := 29) B (gHistory_t2 hG) (by decide) (by decide) (fun h3 => gHistory_e2 hG _ (z_lt h3)) dX1_note_29 (fun h3 => zk_lr (fun t2 h3e => ?_))
    have ht2 : g_Desk G t2 := by rw [h3e]; exact gHistory_k2 hG _ (z_lt h3)
    refine zk_aload_n (pc := 30) B dX1_note_30 1 rfl rfl ?_
    refine zk_cvm (pc := 31) (k' := 0) (n' := 0) B rfl rfl (Nat.le_of_ble_eq_true rfl) (Nat.le_of_ble_eq_true rfl) (fun b hb => zr_V B hR kV_yX0_copyFrom km_1_25 kx_0 (gDesk_s ht2) [.ref u1] rfl rfl (Nat.le_of_ble_eq_true rfl) dX1_note_31 (m_Desk_copyFrom hX ht2 hu1 M b hb) ⟨Nat.le_of_ble_eq_true rfl, Nat.le_of_ble_eq_true rfl⟩ ⟨Nat.le_of_ble_eq_true rfl, Nat.le_of_ble_eq_true rfl⟩) (fun M4 => ?_)
    refine zk_aload_n (pc := 34) B dX1_note_34 0 rfl rfl ?_
    refine zk_aload_n (pc := 35) B dX1_note_35 0 rfl rfl ?_
    refine zk_geti (pc := 36) B kx_1 (gHistory_s hG) 1 (by decide) kf_1_15 rfl dX1_note_36 ?_
    refine zk_iconst (v := 1) (pc := 39) B dX1_note_39 (by decide) ?_
    refine zk_iadd (pc := 40) B dX1_note_40 ?_
    refine zk_bipush (v := 10) (pc := 41) B dX1_note_41 (by decide) ?_
    refine zk_irem (pc := 43) B dX1_note_43 (by decide) ?_
    refine zk_puti (pc := 44) B kx_1 (gHistory_s hG) 1 (by decide) kf_1_15 rfl rfl rfl rfl dX1_note_44 ?_
    refine zk_lm (fun M5 => ?_)
    refine zk_aload_n (pc := 47) B dX1_note_47 0 rfl rfl ?_
    refine zk_geti (pc := 48) B kx_1 (gHistory_s hG) 0 (by decide) kf_1_9 rfl dX1_note_48 ?_
    refine zk_bipush (v := 10) (pc := 51) B dX1_note_51 (by decide) ?_
    refine zk_icmp_ge (tgt := 66) (pc := 53) B dX1_note_53 (by decide) (fun _ => ?_) (fun _ => ?_)
    · exact zk_vret (pc := 66) B dX1_note_66 rfl (Nat.le_of_ble_eq_true rfl) (Nat.le_of_ble_eq_true rfl) rfl
    · refine zk_aload_n (pc := 56) B dX1_note_56 0 rfl rfl ?_
      refine zk_dup (pc := 57) B dX1_note_57 rfl ?_
      refine zk_geti (pc := 58) B kx_1 (gHistory_s hG) 0 (by decide) kf_1_9 rfl dX1_note_58 ?_
      refine zk_iconst (v := 1) (pc := 61) B dX1_note_61 (by decide) ?_
      refine zk_iadd (pc := 62) B dX1_note_62 ?_
      refine zk_puti (pc := 63) B kx_1 (gHistory_s hG) 0 (by decide) kf_1_9 rfl rfl rfl rfl dX1_note_63 ?_
      refine zk_lm (fun M6 => ?_)
      exact zk_vret (pc := 66) B dX1_note_66 rfl (Nat.le_of_ble_eq_true rfl) (Nat.le_of_ble_eq_true rfl) rfl
  have J16 : ∀ (u1 : Nat) (hu1 : g_Desk G u1) (M : z_Mem), z_K X F 2 0 0 G z_cvm b 0 0 16 [(0, .ref (o + 45)), (1, .ref u1)] [] M (F_History_note_J16 o u1 M) := by
    intro u1 hu1 M
    unfold F_History_note_J16
    refine zk_aload_n (pc := 16) B dX1_note_16 0 rfl rfl ?_
    refine zk_iconst (v := 0) (pc := 17) B dX1_note_17 (by decide) ?_
    refine zk_puti (pc := 18) B kx_1 (gHistory_s hG) 1 (by decide) kf_1_15 rfl rfl rfl rfl dX1_note_18 ?_
    refine zk_lm (fun M1 => ?_)
    exact J21 u1 hu1 M1
  show z_K X F 2 0 0 G z_cvm b 0 0 0 [(0, .ref (o + 45)), (1, .ref r0)] [] M (F_History_note o r0 M)
  unfold F_History_note
  refine zk_aload_n (pc := 0) B dX1_note_0 0 rfl rfl ?_
  refine zk_geti (pc := 1) B kx_1 (gHistory_s hG) 1 (by decide) kf_1_15 rfl dX1_note_1 ?_
  refine zk_if_lt (tgt := 16) (pc := 4) B dX1_note_4 (by decide) (fun _ => ?_) (fun _ => ?_)
  · exact J16 r0 hr0 M
  · refine zk_aload_n (pc := 7) B dX1_note_7 0 rfl rfl ?_
    refine zk_geti (pc := 8) B kx_1 (gHistory_s hG) 1 (by decide) kf_1_15 rfl dX1_note_8 ?_
    refine zk_bipush (v := 10) (pc := 11) B dX1_note_11 (by decide) ?_
    refine zk_icmp_lt (tgt := 21) (pc := 13) B dX1_note_13 (by decide) (fun _ => ?_) (fun _ => ?_)
    · exact J21 r0 hr0 M
    · exact J16 r0 hr0 M
set_option maxHeartbeats 4000000 in
set_option maxRecDepth 100000 in
theorem m_Taxi_stopAt {X : z_X} (hX : z_ok X) {G : z_Gr} {a : Nat} (ha : g_Taxi G a) (p0 : Int32) (M : z_Mem) (b : Int32) (h : F_Taxi_stopAt a p0 M = some b) : z_Ct X yX6_stopAt cX6_stopAt 2 (some .int) ({ frames := 0, cells := 0, slots := 0, locals := 0 } : Room) [.ref a, .int p0] G M (fun o9 G9 M9 => G9 = G ∧ (o9, M9) = (z_ci M) b) := by
  refine z_enter hX (by decide) (Nat.le_of_ble_eq_true rfl) h (fun F B hR => ?_)
  show z_K X F 2 0 0 G (z_ci M) b 0 0 0 [(0, .ref a), (1, .int p0)] [] M (F_Taxi_stopAt a p0 M)
  unfold F_Taxi_stopAt
  refine zk_iload_n (pc := 0) B dX6_stopAt_0 1 rfl rfl ?_
  refine zk_if_lt (tgt := 27) (pc := 1) B dX6_stopAt_1 (by decide) (fun _ => ?_) (fun _ => ?_)
  · refine zk_iconst (v := (-1)) (pc := 27) B dX6_stopAt_27 (by decide) ?_
    exact zk_iret (pc := 28) B dX6_stopAt_28 rfl rfl (Nat.le_of_ble_eq_true rfl) (Nat.le_of_ble_eq_true rfl) rfl
  · refine zk_iload_n (pc := 4) B dX6_stopAt_4 1 rfl rfl ?_
    refine zk_aload_n (pc := 5) B dX6_stopAt_5 0 rfl rfl ?_
    refine zk_geti (pc := 6) B kx_6 (gTaxi_s ha) 7 (by decide) kf_6_40 rfl dX6_stopAt_6 ?_
    refine zk_icmp_ge (tgt := 27) (pc := 9) B dX6_stopAt_9 (by decide) (fun _ => ?_) (fun _ => ?_)
    · refine zk_iconst (v := (-1)) (pc := 27) B dX6_stopAt_27 (by decide) ?_
      exact zk_iret (pc := 28) B dX6_stopAt_28 rfl rfl (Nat.le_of_ble_eq_true rfl) (Nat.le_of_ble_eq_true rfl) rfl
    · refine zk_iload_n (pc := 12) B dX6_stopAt_12 1 rfl rfl ?_
      refine zk_bipush (v := 12) (pc := 13) B dX6_stopAt_13 (by decide) ?_
      refine zk_icmp_ge (tgt := 27) (pc := 15) B dX6_stopAt_15 (by decide) (fun _ => ?_) (fun _ => ?_)
      · refine zk_iconst (v := (-1)) (pc := 27) B dX6_stopAt_27 (by decide) ?_
        exact zk_iret (pc := 28) B dX6_stopAt_28 rfl rfl (Nat.le_of_ble_eq_true rfl) (Nat.le_of_ble_eq_true rfl) rfl
      · refine zk_aload_n (pc := 18) B dX6_stopAt_18 0 rfl rfl ?_
        refine zk_getr (pc := 19) B kx_6 (gTaxi_s ha) 9 (by decide) kf_6_9 rfl (gTaxi_f9 ha) dX6_stopAt_19 ?_
        refine zk_iload_n (pc := 22) B dX6_stopAt_22 1 rfl rfl ?_
        refine zk_iald (pc := 23) B (gTaxi_t9 ha) dX6_stopAt_23 ?_
        refine zk_goto (tgt := 28) (pc := 24) B dX6_stopAt_24 (by decide) ?_
        exact zk_iret (pc := 28) B dX6_stopAt_28 rfl rfl (Nat.le_of_ble_eq_true rfl) (Nat.le_of_ble_eq_true rfl) rfl
set_option maxHeartbeats 4000000 in
set_option maxRecDepth 100000 in
theorem m_Plan_append {X : z_X} (hX : z_ok X) {G : z_Gr} {o : Nat} (hG : g_Sys G o) (p0 : Int32) (M : z_Mem) (b : z_Mem) (h : F_Plan_append o p0 M = some b) : z_Ct X yX3_append cX3_append 2 none ({ frames := 0, cells := 0, slots := 0, locals := 0 } : Room) [.ref (o + 487), .int p0] G M (fun o9 G9 M9 => G9 = G ∧ (o9, M9) = z_cvm b) := by
  refine z_enter hX (by decide) (Nat.le_of_ble_eq_true rfl) h (fun F B hR => ?_)
  show z_K X F 2 0 0 G z_cvm b 0 0 0 [(0, .ref (o + 487)), (1, .int p0)] [] M (F_Plan_append o p0 M)
  unfold F_Plan_append
  refine zk_aload_n (pc := 0) B dX3_append_0 0 rfl rfl ?_
  refine zk_geti (pc := 1) B kx_3 (gPlan_s hG) 3 (by decide) kf_3_42 rfl dX3_append_1 ?_
  refine zk_if_lt (tgt := 36) (pc := 4) B dX3_append_4 (by decide) (fun _ => ?_) (fun _ => ?_)
  · exact zk_vret (pc := 36) B dX3_append_36 rfl (Nat.le_of_ble_eq_true rfl) (Nat.le_of_ble_eq_true rfl) rfl
  · refine zk_aload_n (pc := 7) B dX3_append_7 0 rfl rfl ?_
    refine zk_geti (pc := 8) B kx_3 (gPlan_s hG) 3 (by decide) kf_3_42 rfl dX3_append_8 ?_
    refine zk_bipush (v := 12) (pc := 11) B dX3_append_11 (by decide) ?_
    refine zk_icmp_ge (tgt := 36) (pc := 13) B dX3_append_13 (by decide) (fun _ => ?_) (fun _ => ?_)
    · exact zk_vret (pc := 36) B dX3_append_36 rfl (Nat.le_of_ble_eq_true rfl) (Nat.le_of_ble_eq_true rfl) rfl
    · refine zk_aload_n (pc := 16) B dX3_append_16 0 rfl rfl ?_
      refine zk_getr (pc := 17) B kx_3 (gPlan_s hG) 5 (by decide) kf_3_9 rfl (gPlan_f5 hG) dX3_append_17 ?_
      refine zk_aload_n (pc := 20) B dX3_append_20 0 rfl rfl ?_
      refine zk_geti (pc := 21) B kx_3 (gPlan_s hG) 3 (by decide) kf_3_42 rfl dX3_append_21 ?_
      refine zk_iload_n (pc := 24) B dX3_append_24 1 rfl rfl ?_
      refine zk_iast (pc := 25) B (gPlan_t5 hG) dX3_append_25 ?_
      refine zk_lm (fun M1 => ?_)
      refine zk_aload_n (pc := 26) B dX3_append_26 0 rfl rfl ?_
      refine zk_dup (pc := 27) B dX3_append_27 rfl ?_
      refine zk_geti (pc := 28) B kx_3 (gPlan_s hG) 3 (by decide) kf_3_42 rfl dX3_append_28 ?_
      refine zk_iconst (v := 1) (pc := 31) B dX3_append_31 (by decide) ?_
      refine zk_iadd (pc := 32) B dX3_append_32 ?_
      refine zk_puti (pc := 33) B kx_3 (gPlan_s hG) 3 (by decide) kf_3_42 rfl rfl rfl rfl dX3_append_33 ?_
      refine zk_lm (fun M2 => ?_)
      exact zk_vret (pc := 36) B dX3_append_36 rfl (Nat.le_of_ble_eq_true rfl) (Nat.le_of_ble_eq_true rfl) rfl
set_option maxHeartbeats 4000000 in
set_option maxRecDepth 100000 in
theorem m_Town_hasPlaces {X : z_X} (hX : z_ok X) {G : z_Gr} (p0 : Int32) (p1 : Int32) (M : z_Mem) (b : Int32) (h : F_Town_hasPlaces p0 p1 M = some b) : z_Ct X yX9_hasPlaces cX9_hasPlaces 2 (some .boolean) ({ frames := 0, cells := 0, slots := 0, locals := 0 } : Room) [.int p0, .int p1] G M (fun o9 G9 M9 => G9 = G ∧ (o9, M9) = (z_ci M) b) := by
  refine z_enter hX (by decide) (Nat.le_of_ble_eq_true rfl) h (fun F B hR => ?_)
  show z_K X F 2 0 0 G (z_ci M) b 0 0 0 [(0, .int p0), (1, .int p1)] [] M (F_Town_hasPlaces p0 p1 M)
  unfold F_Town_hasPlaces
  refine zk_iload_n (pc := 0) B dX9_hasPlaces_0 0 rfl rfl ?_
  refine zk_if_lt (tgt := 24) (pc := 1) B dX9_hasPlaces_1 (by decide) (fun _ => ?_) (fun _ => ?_)
  · refine zk_iconst (v := 0) (pc := 24) B dX9_hasPlaces_24 (by decide) ?_
    exact zk_iret (pc := 25) B dX9_hasPlaces_25 rfl rfl (Nat.le_of_ble_eq_true rfl) (Nat.le_of_ble_eq_true rfl) rfl
  · refine zk_iload_n (pc := 4) B dX9_hasPlaces_4 0 rfl rfl ?_
    refine zk_bipush (v := 8) (pc := 5) B dX9_hasPlaces_5 (by decide) ?_
    refine zk_icmp_ge (tgt := 24) (pc := 7) B dX9_hasPlaces_7 (by decide) (fun _ => ?_) (fun _ => ?_)
    · refine zk_iconst (v := 0) (pc := 24) B dX9_hasPlaces_24 (by decide) ?_
      exact zk_iret (pc := 25) B dX9_hasPlaces_25 rfl rfl (Nat.le_of_ble_eq_true rfl) (Nat.le_of_ble_eq_true rfl) rfl
    · refine zk_iload_n (pc := 10) B dX9_hasPlaces_10 1 rfl rfl ?_
      refine zk_if_lt (tgt := 24) (pc := 11) B dX9_hasPlaces_11 (by decide) (fun _ => ?_) (fun _ => ?_)
      · refine zk_iconst (v := 0) (pc := 24) B dX9_hasPlaces_24 (by decide) ?_
        exact zk_iret (pc := 25) B dX9_hasPlaces_25 rfl rfl (Nat.le_of_ble_eq_true rfl) (Nat.le_of_ble_eq_true rfl) rfl
      · refine zk_iload_n (pc := 14) B dX9_hasPlaces_14 1 rfl rfl ?_
        refine zk_bipush (v := 8) (pc := 15) B dX9_hasPlaces_15 (by decide) ?_
        refine zk_icmp_ge (tgt := 24) (pc := 17) B dX9_hasPlaces_17 (by decide) (fun _ => ?_) (fun _ => ?_)
        · refine zk_iconst (v := 0) (pc := 24) B dX9_hasPlaces_24 (by decide) ?_
          exact zk_iret (pc := 25) B dX9_hasPlaces_25 rfl rfl (Nat.le_of_ble_eq_true rfl) (Nat.le_of_ble_eq_true rfl) rfl
        · refine zk_iconst (v := 1) (pc := 20) B dX9_hasPlaces_20 (by decide) ?_
          refine zk_goto (tgt := 25) (pc := 21) B dX9_hasPlaces_21 (by decide) ?_
          exact zk_iret (pc := 25) B dX9_hasPlaces_25 rfl rfl (Nat.le_of_ble_eq_true rfl) (Nat.le_of_ble_eq_true rfl) rfl
set_option maxHeartbeats 4000000 in
set_option maxRecDepth 100000 in
theorem m_Town_wayMinutes {X : z_X} (hX : z_ok X) {G : z_Gr} {a : Nat} (ha : g_Town G a) (p0 : Int32) (p1 : Int32) (M : z_Mem) (b : Int32) (h : F_Town_wayMinutes a p0 p1 M = some b) : z_Ct X yX9_wayMinutes cX9_wayMinutes 3 (some .int) ({ frames := 1, cells := 0, slots := 0, locals := 21 } : Room) [.ref a, .int p0, .int p1] G M (fun o9 G9 M9 => G9 = G ∧ (o9, M9) = (z_ci M) b) := by
  refine z_enter hX (by decide) (Nat.le_of_ble_eq_true rfl) h (fun F B hR => ?_)
  show z_K X F 3 0 0 G (z_ci M) b 0 0 0 [(0, .ref a), (1, .int p0), (2, .int p1)] [] M (F_Town_wayMinutes a p0 p1 M)
  unfold F_Town_wayMinutes
  refine zk_iload_n (pc := 0) B dX9_wayMinutes_0 1 rfl rfl ?_
  refine zk_iload_n (pc := 1) B dX9_wayMinutes_1 2 rfl rfl ?_
  refine zk_cpi (pc := 2) (k' := 0) (n' := 0) B rfl rfl (Nat.le_of_ble_eq_true rfl) (Nat.le_of_ble_eq_true rfl) (fun b hb => zr_S B hR kS_yX9_hasPlaces km_9_22 [.int p0, .int p1] rfl rfl (Nat.le_of_ble_eq_true rfl) dX9_wayMinutes_2 (m_Town_hasPlaces hX p0 p1 M b hb) ⟨Nat.le_of_ble_eq_true rfl, Nat.le_of_ble_eq_true rfl⟩ ⟨Nat.le_of_ble_eq_true rfl, Nat.le_of_ble_eq_true rfl⟩) (fun x1 _ => ?_)
  refine zk_if_eq (tgt := 22) (pc := 5) B dX9_wayMinutes_5 (by decide) (fun _ => ?_) (fun _ => ?_)
  · refine zk_iconst (v := (-1)) (pc := 22) B dX9_wayMinutes_22 (by decide) ?_
    exact zk_iret (pc := 23) B dX9_wayMinutes_23 rfl rfl (Nat.le_of_ble_eq_true rfl) (Nat.le_of_ble_eq_true rfl) rfl
  · refine zk_aload_n (pc := 8) B dX9_wayMinutes_8 0 rfl rfl ?_
    refine zk_getr (pc := 9) B kx_9 (gTown_s ha) 2 (by decide) kf_9_9 rfl (gTown_f2 ha) dX9_wayMinutes_9 ?_
    refine zk_iload_n (pc := 12) B dX9_wayMinutes_12 1 rfl rfl ?_
    refine zk_bipush (v := 8) (pc := 13) B dX9_wayMinutes_13 (by decide) ?_
    refine zk_imul (pc := 15) B dX9_wayMinutes_15 ?_
    refine zk_iload_n (pc := 16) B dX9_wayMinutes_16 2 rfl rfl ?_
    refine zk_iadd (pc := 17) B dX9_wayMinutes_17 ?_
    refine zk_iald (pc := 18) B (gTown_t2 ha) dX9_wayMinutes_18 ?_
    refine zk_goto (tgt := 23) (pc := 19) B dX9_wayMinutes_19 (by decide) ?_
    exact zk_iret (pc := 23) B dX9_wayMinutes_23 rfl rfl (Nat.le_of_ble_eq_true rfl) (Nat.le_of_ble_eq_true rfl) rfl
set_option maxHeartbeats 4000000 in
set_option maxRecDepth 100000 in
theorem m_Plan_hasPlace {X : z_X} (hX : z_ok X) {G : z_Gr} {o : Nat} (hG : g_Sys G o) (p0 : Int32) (M : z_Mem) (b : Int32) (h : F_Plan_hasPlace o p0 M = some b) : z_Ct X yX3_hasPlace cX3_hasPlace 2 (some .boolean) ({ frames := 0, cells := 0, slots := 0, locals := 0 } : Room) [.ref (o + 487), .int p0] G M (fun o9 G9 M9 => G9 = G ∧ (o9, M9) = (z_ci M) b) := by
  refine z_enter hX (by decide) (Nat.le_of_ble_eq_true rfl) h (fun F B hR => ?_)
  show z_K X F 2 0 0 G (z_ci M) b 0 0 0 [(0, .ref (o + 487)), (1, .int p0)] [] M (F_Plan_hasPlace o p0 M)
  unfold F_Plan_hasPlace
  refine zk_iload_n (pc := 0) B dX3_hasPlace_0 1 rfl rfl ?_
  refine zk_if_lt (tgt := 22) (pc := 1) B dX3_hasPlace_1 (by decide) (fun _ => ?_) (fun _ => ?_)
  · refine zk_iconst (v := 0) (pc := 22) B dX3_hasPlace_22 (by decide) ?_
    exact zk_iret (pc := 23) B dX3_hasPlace_23 rfl rfl (Nat.le_of_ble_eq_true rfl) (Nat.le_of_ble_eq_true rfl) rfl
  · refine zk_iload_n (pc := 4) B dX3_hasPlace_4 1 rfl rfl ?_
    refine zk_aload_n (pc := 5) B dX3_hasPlace_5 0 rfl rfl ?_
    refine zk_geti (pc := 6) B kx_3 (gPlan_s hG) 3 (by decide) kf_3_42 rfl dX3_hasPlace_6 ?_
    refine zk_icmp_ge (tgt := 22) (pc := 9) B dX3_hasPlace_9 (by decide) (fun _ => ?_) (fun _ => ?_)
    · refine zk_iconst (v := 0) (pc := 22) B dX3_hasPlace_22 (by decide) ?_
      exact zk_iret (pc := 23) B dX3_hasPlace_23 rfl rfl (Nat.le_of_ble_eq_true rfl) (Nat.le_of_ble_eq_true rfl) rfl
    · refine zk_iload_n (pc := 12) B dX3_hasPlace_12 1 rfl rfl ?_
      refine zk_bipush (v := 12) (pc := 13) B dX3_hasPlace_13 (by decide) ?_
      refine zk_icmp_ge (tgt := 22) (pc := 15) B dX3_hasPlace_15 (by decide) (fun _ => ?_) (fun _ => ?_)
      · refine zk_iconst (v := 0) (pc := 22) B dX3_hasPlace_22 (by decide) ?_
        exact zk_iret (pc := 23) B dX3_hasPlace_23 rfl rfl (Nat.le_of_ble_eq_true rfl) (Nat.le_of_ble_eq_true rfl) rfl
      · refine zk_iconst (v := 1) (pc := 18) B dX3_hasPlace_18 (by decide) ?_
        refine zk_goto (tgt := 23) (pc := 19) B dX3_hasPlace_19 (by decide) ?_
        exact zk_iret (pc := 23) B dX3_hasPlace_23 rfl rfl (Nat.le_of_ble_eq_true rfl) (Nat.le_of_ble_eq_true rfl) rfl
set_option maxHeartbeats 4000000 in
set_option maxRecDepth 100000 in
theorem m_Plan_leavingTime {X : z_X} (hX : z_ok X) {G : z_Gr} {o : Nat} (hG : g_Sys G o) {r0 : Nat} (hr0 : g_Taxi G r0) (p1 : Int32) (p2 : Int32) (M : z_Mem) (b : Int32) (h : F_Plan_leavingTime o r0 p1 p2 M = some b) : z_Ct X yX3_leavingTime cX3_leavingTime 6 (some .int) ({ frames := 1, cells := 0, slots := 0, locals := 32 } : Room) [.ref (o + 487), .ref r0, .int p1, .int p2] G M (fun o9 G9 M9 => G9 = G ∧ (o9, M9) = (z_ci M) b) := by
  refine z_enter hX (by decide) (Nat.le_of_ble_eq_true rfl) h (fun F B hR => ?_)
  have J20 : ∀ (u1 : Nat) (hu1 : g_Taxi G u1), z_K X F 6 0 0 G (z_ci M) b 0 0 20 [(1, .ref u1)] [] M (F_Plan_leavingTime_J20 o u1 M) := by
    intro u1 hu1
    unfold F_Plan_leavingTime_J20
    refine zk_aload_n (pc := 20) B dX3_leavingTime_20 0 rfl rfl ?_
    refine zk_geti (pc := 21) B kx_6 (gTaxi_s hu1) 6 (by decide) kf_3_105 rfl dX3_leavingTime_21 ?_
    exact zk_iret (pc := 24) B dX3_leavingTime_24 rfl rfl (Nat.le_of_ble_eq_true rfl) (Nat.le_of_ble_eq_true rfl) rfl
  have J44 : ∀ (v2 : Int32) (s0 : Int32), z_K X F 6 0 0 G (z_ci M) b 0 0 44 [(0, .ref (o + 487)), (2, .int v2)] [.int s0] M (F_Plan_leavingTime_J44 o v2 s0 M) := by
    intro v2 s0
    unfold F_Plan_leavingTime_J44
    refine zk_istore (loc' := [(4, .int s0), (0, .ref (o + 487)), (2, .int v2)]) (pc := 44) B dX3_leavingTime_44 (by decide) rfl ?_
    refine zk_aload_n (pc := 46) B dX3_leavingTime_46 1 rfl rfl ?_
    refine zk_getr (pc := 47) B kx_3 (gPlan_s hG) 5 (by decide) kf_3_9 rfl (gPlan_f5 hG) dX3_leavingTime_47 ?_
    refine zk_iload_n (pc := 50) B dX3_leavingTime_50 2 rfl rfl ?_
    refine zk_iald (pc := 51) B (gPlan_t5 hG) dX3_leavingTime_51 ?_
    refine zk_cpi (pc := 52) (k' := 0) (n' := 0) B rfl rfl (Nat.le_of_ble_eq_true rfl) (Nat.le_of_ble_eq_true rfl) (fun b hb => zr_S B hR kS_yX0_isPickup km_3_111 [.int (M.1 (o + 488) v2.toNatClampNeg)] rfl rfl (Nat.le_of_ble_eq_true rfl) dX3_leavingTime_52 (m_Desk_isPickup hX (M.1 (o + 488) v2.toNatClampNeg) M b hb) ⟨Nat.le_of_ble_eq_true rfl, Nat.le_of_ble_eq_true rfl⟩ ⟨Nat.le_of_ble_eq_true rfl, Nat.le_of_ble_eq_true rfl⟩) (fun x3 _ => ?_)
    refine zk_if_eq (tgt := 95) (pc := 55) B dX3_leavingTime_55 (by decide) (fun _ => ?_) (fun _ => ?_)
    · refine zk_iload (pc := 95) B dX3_leavingTime_95 0 rfl ?_
      exact zk_iret (pc := 97) B dX3_leavingTime_97 rfl rfl (Nat.le_of_ble_eq_true rfl) (Nat.le_of_ble_eq_true rfl) rfl
    · refine zk_aload_n (pc := 58) B dX3_leavingTime_58 1 rfl rfl ?_
      refine zk_getr (pc := 59) B kx_3 (gPlan_s hG) 2 (by decide) kf_3_34 rfl (gPlan_f2 hG) dX3_leavingTime_59 ?_
      refine zk_aload_n (pc := 62) B dX3_leavingTime_62 1 rfl rfl ?_
      refine zk_getr (pc := 63) B kx_3 (gPlan_s hG) 5 (by decide) kf_3_9 rfl (gPlan_f5 hG) dX3_leavingTime_63 ?_
      refine zk_iload_n (pc := 66) B dX3_leavingTime_66 2 rfl rfl ?_
      refine zk_iald (pc := 67) B (gPlan_t5 hG) dX3_leavingTime_67 ?_
      refine zk_cpi (pc := 68) (k' := 0) (n' := 0) B rfl rfl (Nat.le_of_ble_eq_true rfl) (Nat.le_of_ble_eq_true rfl) (fun b hb => zr_S B hR kS_yX0_rideNumber km_3_114 [.int (M.1 (o + 488) v2.toNatClampNeg)] rfl rfl (Nat.le_of_ble_eq_true rfl) dX3_leavingTime_68 (m_Desk_rideNumber hX (M.1 (o + 488) v2.toNatClampNeg) M b hb) ⟨Nat.le_of_ble_eq_true rfl, Nat.le_of_ble_eq_true rfl⟩ ⟨Nat.le_of_ble_eq_true rfl, Nat.le_of_ble_eq_true rfl⟩) (fun x4 _ => ?_)
      refine zk_cpr (pc := 71) (k' := 0) (n' := 0) B rfl rfl (Nat.le_of_ble_eq_true rfl) (Nat.le_of_ble_eq_true rfl) (fun b hb => zr_V B hR kV_yX0_rideAt km_3_117 kx_0 (gDesk_s (gPlan_t2 hG)) [.int x4] rfl rfl (Nat.le_of_ble_eq_true rfl) dX3_leavingTime_71 (m_Desk_rideAt hX (gPlan_t2 hG) x4 M b hb) ⟨Nat.le_of_ble_eq_true rfl, Nat.le_of_ble_eq_true rfl⟩ ⟨Nat.le_of_ble_eq_true rfl, Nat.le_of_ble_eq_true rfl⟩) (fun t5 h6 => ?_)
      have ht5 : g_Ride G t5 := fr_Desk_rideAt (gPlan_t2 hG) h6
      refine zk_astore (loc' := [(5, .ref t5), (4, .int s0), (0, .ref (o + 487)), (2, .int v2)]) (pc := 74) B dX3_leavingTime_74 (by decide) rfl ?_
      refine zk_iload (pc := 76) B dX3_leavingTime_76 1 rfl ?_
      refine zk_aload (pc := 78) B dX3_leavingTime_78 0 rfl ?_
      refine zk_geti (pc := 80) B kx_5 (gRide_s ht5) 4 (by decide) kf_3_121 rfl dX3_leavingTime_80 ?_
      refine zk_aload_n (pc := 83) B dX3_leavingTime_83 2 rfl rfl ?_
      refine zk_getr (pc := 84) B kx_3 (gPlan_s hG) 6 (by decide) kf_3_15 rfl (gPlan_f6 hG) dX3_leavingTime_84 ?_
      refine zk_iload_n (pc := 87) B dX3_leavingTime_87 3 rfl rfl ?_
      refine zk_iald (pc := 88) B (gPlan_t6 hG) dX3_leavingTime_88 ?_
      refine zk_isub (pc := 89) B dX3_leavingTime_89 ?_
      refine zk_max (pc := 90) B hR km_3_93 kst_max ki_Math kco_max (Nat.le_of_ble_eq_true rfl) (Nat.le_of_ble_eq_true rfl) (Nat.le_of_ble_eq_true rfl) (Nat.le_of_ble_eq_true rfl) dX3_leavingTime_90 ?_
      refine zk_li (fun x7 => ?_)
      refine zk_istore (loc' := [(4, .int x7), (5, .ref t5), (0, .ref (o + 487)), (2, .int v2)]) (pc := 93) B dX3_leavingTime_93 (by decide) rfl ?_
      refine zk_iload (pc := 95) B dX3_leavingTime_95 0 rfl ?_
      exact zk_iret (pc := 97) B dX3_leavingTime_97 rfl rfl (Nat.le_of_ble_eq_true rfl) (Nat.le_of_ble_eq_true rfl) rfl
  have J25 : ∀ (v2 : Int32) (v3 : Int32), z_K X F 6 0 0 G (z_ci M) b 0 0 25 [(0, .ref (o + 487)), (2, .int v2), (3, .int v3)] [] M (F_Plan_leavingTime_J25 o v2 v3 M) := by
    intro v2 v3
    unfold F_Plan_leavingTime_J25
    refine zk_iload_n (pc := 25) B dX3_leavingTime_25 1 rfl rfl ?_
    refine zk_if_ne (tgt := 43) (pc := 26) B dX3_leavingTime_26 (by decide) (fun _ => ?_) (fun _ => ?_)
    · refine zk_iload_n (pc := 43) B dX3_leavingTime_43 2 rfl rfl ?_
      refine zk_sub [0, 1] rfl ?_
      exact J44 v2 v3
    · refine zk_iload_n (pc := 29) B dX3_leavingTime_29 2 rfl rfl ?_
      refine zk_aload_n (pc := 30) B dX3_leavingTime_30 0 rfl rfl ?_
      refine zk_getr (pc := 31) B kx_3 (gPlan_s hG) 2 (by decide) kf_3_34 rfl (gPlan_f2 hG) dX3_leavingTime_31 ?_
      refine zk_geti (pc := 34) B kx_0 (gDesk_s (gPlan_t2 hG)) 0 (by decide) kf_3_108 rfl dX3_leavingTime_34 ?_
      refine zk_max (pc := 37) B hR km_3_93 kst_max ki_Math kco_max (Nat.le_of_ble_eq_true rfl) (Nat.le_of_ble_eq_true rfl) (Nat.le_of_ble_eq_true rfl) (Nat.le_of_ble_eq_true rfl) dX3_leavingTime_37 ?_
      refine zk_li (fun x2 => ?_)
      refine zk_goto (tgt := 44) (pc := 40) B dX3_leavingTime_40 (by decide) ?_
      refine zk_sub [0, 1] rfl ?_
      exact J44 v2 x2
  show z_K X F 6 0 0 G (z_ci M) b 0 0 0 [(0, .ref (o + 487)), (1, .ref r0), (2, .int p1), (3, .int p2)] [] M (F_Plan_leavingTime o r0 p1 p2 M)
  unfold F_Plan_leavingTime
  refine zk_aload_n (pc := 0) B dX3_leavingTime_0 0 rfl rfl ?_
  refine zk_iload_n (pc := 1) B dX3_leavingTime_1 2 rfl rfl ?_
  refine zk_cpi (pc := 2) (k' := 0) (n' := 0) B rfl rfl (Nat.le_of_ble_eq_true rfl) (Nat.le_of_ble_eq_true rfl) (fun b hb => zr_V B hR kV_yX3_hasPlace km_3_38 kx_3 (gPlan_s hG) [.int p1] rfl rfl (Nat.le_of_ble_eq_true rfl) dX3_leavingTime_2 (m_Plan_hasPlace hX hG p1 M b hb) ⟨Nat.le_of_ble_eq_true rfl, Nat.le_of_ble_eq_true rfl⟩ ⟨Nat.le_of_ble_eq_true rfl, Nat.le_of_ble_eq_true rfl⟩) (fun x1 _ => ?_)
  refine zk_if_eq (tgt := 20) (pc := 5) B dX3_leavingTime_5 (by decide) (fun _ => ?_) (fun _ => ?_)
  · refine zk_sub [1] rfl ?_
    exact J20 r0 hr0
  · refine zk_iload_n (pc := 8) B dX3_leavingTime_8 2 rfl rfl ?_
    refine zk_if_ne (tgt := 25) (pc := 9) B dX3_leavingTime_9 (by decide) (fun _ => ?_) (fun _ => ?_)
    · refine zk_sub [0, 2, 3] rfl ?_
      exact J25 p1 p2
    · refine zk_aload_n (pc := 12) B dX3_leavingTime_12 1 rfl rfl ?_
      refine zk_geti (pc := 13) B kx_6 (gTaxi_s hr0) 6 (by decide) kf_3_105 rfl dX3_leavingTime_13 ?_
      refine zk_iconst (v := (-1)) (pc := 16) B dX3_leavingTime_16 (by decide) ?_
      refine zk_icmp_eq (tgt := 25) (pc := 17) B dX3_leavingTime_17 (by decide) (fun _ => ?_) (fun _ => ?_)
      · refine zk_sub [0, 2, 3] rfl ?_
        exact J25 p1 p2
      · refine zk_sub [1] rfl ?_
        exact J20 r0 hr0
set_option maxHeartbeats 4000000 in
set_option maxRecDepth 100000 in
theorem m_Plan_stayAt {X : z_X} (hX : z_ok X) {G : z_Gr} {o : Nat} (hG : g_Sys G o) (p0 : Int32) (M : z_Mem) (b : Int32) (h : F_Plan_stayAt o p0 M = some b) : z_Ct X yX3_stayAt cX3_stayAt 3 (some .int) ({ frames := 1, cells := 0, slots := 0, locals := 21 } : Room) [.ref (o + 487), .int p0] G M (fun o9 G9 M9 => G9 = G ∧ (o9, M9) = (z_ci M) b) := by
  refine z_enter hX (by decide) (Nat.le_of_ble_eq_true rfl) h (fun F B hR => ?_)
  have J43 : ∀ (s0 : Int32) (s1 : Nat) (hs1 : g_Desk G s1), z_K X F 3 0 0 G (z_ci M) b 0 0 43 [] [.int s0, .ref s1] M (F_Plan_stayAt_J43 o s0 s1 M) := by
    intro s0 s1 hs1
    unfold F_Plan_stayAt_J43
    refine zk_cpi (pc := 43) (k' := 0) (n' := 0) B rfl rfl (Nat.le_of_ble_eq_true rfl) (Nat.le_of_ble_eq_true rfl) (fun b hb => zr_V B hR kV_yX0_ruleValue km_3_129 kx_0 (gDesk_s hs1) [.int s0] rfl rfl (Nat.le_of_ble_eq_true rfl) dX3_stayAt_43 (m_Desk_ruleValue hX hs1 s0 M b hb) ⟨Nat.le_of_ble_eq_true rfl, Nat.le_of_ble_eq_true rfl⟩ ⟨Nat.le_of_ble_eq_true rfl, Nat.le_of_ble_eq_true rfl⟩) (fun x5 _ => ?_)
    exact zk_iret (pc := 46) B dX3_stayAt_46 rfl rfl (Nat.le_of_ble_eq_true rfl) (Nat.le_of_ble_eq_true rfl) rfl
  have J29 : ∀ (s0 : Int32), z_K X F 3 0 0 G (z_ci M) b 0 0 29 [(0, .ref (o + 487))] [.int s0] M (F_Plan_stayAt_J29 o s0 M) := by
    intro s0
    unfold F_Plan_stayAt_J29
    refine zk_istore_n (loc' := [(2, .int s0), (0, .ref (o + 487))]) (pc := 29) B dX3_stayAt_29 rfl (by decide) rfl ?_
    refine zk_aload_n (pc := 30) B dX3_stayAt_30 1 rfl rfl ?_
    refine zk_getr (pc := 31) B kx_3 (gPlan_s hG) 2 (by decide) kf_3_34 rfl (gPlan_f2 hG) dX3_stayAt_31 ?_
    refine zk_iload_n (pc := 34) B dX3_stayAt_34 0 rfl rfl ?_
    refine zk_if_eq (tgt := 42) (pc := 35) B dX3_stayAt_35 (by decide) (fun _ => ?_) (fun _ => ?_)
    · refine zk_iconst (v := 1) (pc := 42) B dX3_stayAt_42 (by decide) ?_
      refine zk_sub [] rfl ?_
      exact J43 1 (o + 5) (gPlan_t2 hG)
    · refine zk_iconst (v := 3) (pc := 38) B dX3_stayAt_38 (by decide) ?_
      refine zk_goto (tgt := 43) (pc := 39) B dX3_stayAt_39 (by decide) ?_
      refine zk_sub [] rfl ?_
      exact J43 3 (o + 5) (gPlan_t2 hG)
  have J28 : z_K X F 3 0 0 G (z_ci M) b 0 0 28 [(0, .ref (o + 487))] [] M (F_Plan_stayAt_J28 o M) := by
    unfold F_Plan_stayAt_J28
    refine zk_iconst (v := 0) (pc := 28) B dX3_stayAt_28 (by decide) ?_
    exact J29 0
  show z_K X F 3 0 0 G (z_ci M) b 0 0 0 [(0, .ref (o + 487)), (1, .int p0)] [] M (F_Plan_stayAt o p0 M)
  unfold F_Plan_stayAt
  refine zk_iload_n (pc := 0) B dX3_stayAt_0 1 rfl rfl ?_
  refine zk_cpi (pc := 1) (k' := 0) (n' := 0) B rfl rfl (Nat.le_of_ble_eq_true rfl) (Nat.le_of_ble_eq_true rfl) (fun b hb => zr_S B hR kS_yX0_isPickup km_3_111 [.int p0] rfl rfl (Nat.le_of_ble_eq_true rfl) dX3_stayAt_1 (m_Desk_isPickup hX p0 M b hb) ⟨Nat.le_of_ble_eq_true rfl, Nat.le_of_ble_eq_true rfl⟩ ⟨Nat.le_of_ble_eq_true rfl, Nat.le_of_ble_eq_true rfl⟩) (fun x1 _ => ?_)
  refine zk_if_eq (tgt := 28) (pc := 4) B dX3_stayAt_4 (by decide) (fun _ => ?_) (fun _ => ?_)
  · refine zk_sub [0] rfl ?_
    exact J28
  · refine zk_aload_n (pc := 7) B dX3_stayAt_7 0 rfl rfl ?_
    refine zk_getr (pc := 8) B kx_3 (gPlan_s hG) 2 (by decide) kf_3_34 rfl (gPlan_f2 hG) dX3_stayAt_8 ?_
    refine zk_iload_n (pc := 11) B dX3_stayAt_11 1 rfl rfl ?_
    refine zk_cpi (pc := 12) (k' := 0) (n' := 0) B rfl rfl (Nat.le_of_ble_eq_true rfl) (Nat.le_of_ble_eq_true rfl) (fun b hb => zr_S B hR kS_yX0_rideNumber km_3_114 [.int p0] rfl rfl (Nat.le_of_ble_eq_true rfl) dX3_stayAt_12 (m_Desk_rideNumber hX p0 M b hb) ⟨Nat.le_of_ble_eq_true rfl, Nat.le_of_ble_eq_true rfl⟩ ⟨Nat.le_of_ble_eq_true rfl, Nat.le_of_ble_eq_true rfl⟩) (fun x2 _ => ?_)
    refine zk_cpr (pc := 15) (k' := 0) (n' := 0) B rfl rfl (Nat.le_of_ble_eq_true rfl) (Nat.le_of_ble_eq_true rfl) (fun b hb => zr_V B hR kV_yX0_rideAt km_3_117 kx_0 (gDesk_s (gPlan_t2 hG)) [.int x2] rfl rfl (Nat.le_of_ble_eq_true rfl) dX3_stayAt_15 (m_Desk_rideAt hX (gPlan_t2 hG) x2 M b hb) ⟨Nat.le_of_ble_eq_true rfl, Nat.le_of_ble_eq_true rfl⟩ ⟨Nat.le_of_ble_eq_true rfl, Nat.le_of_ble_eq_true rfl⟩) (fun t3 h4 => ?_)
    have ht3 : g_Ride G t3 := fr_Desk_rideAt (gPlan_t2 hG) h4
    refine zk_geti (pc := 18) B kx_5 (gRide_s ht3) 13 (by decide) kf_3_126 rfl dX3_stayAt_18 ?_
    refine zk_if_eq (tgt := 28) (pc := 21) B dX3_stayAt_21 (by decide) (fun _ => ?_) (fun _ => ?_)
    · refine zk_sub [0] rfl ?_
      exact J28
    · refine zk_iconst (v := 1) (pc := 24) B dX3_stayAt_24 (by decide) ?_
      refine zk_goto (tgt := 29) (pc := 25) B dX3_stayAt_25 (by decide) ?_
      refine zk_sub [0] rfl ?_
      exact J29 1
set_option maxHeartbeats 4000000 in
set_option maxRecDepth 100000 in
theorem m_Plan_planTimes {X : z_X} (hX : z_ok X) {G : z_Gr} {o : Nat} (hG : g_Sys G o) {r0 : Nat} (hr0 : g_Taxi G r0) (M : z_Mem) (b : z_Mem) (h : F_Plan_planTimes o r0 M = some b) : z_Ct X yX3_planTimes cX3_planTimes 7 none ({ frames := 2, cells := 0, slots := 0, locals := 57 } : Room) [.ref (o + 487), .ref r0] G M (fun o9 G9 M9 => G9 = G ∧ (o9, M9) = z_cvm b) := by
  refine z_enter hX (by decide) (Nat.le_of_ble_eq_true rfl) h (fun F B hR => ?_)
  have L23 : ∀ (nf23 : Nat), ∀ (u1 : Nat) (hu1 : g_Taxi G u1) (v2 : Int32) (v3 : Int32) (v4 : Int32) (M : z_Mem), z_K X F 7 0 0 G z_cvm b 0 0 23 [(0, .ref (o + 487)), (1, .ref u1), (2, .int v2), (3, .int v3), (4, .int v4)] [] M (F_Plan_planTimes_L23 o nf23 u1 v2 v3 v4 M) := by
    intro nf23
    induction nf23 with
    | zero => intro u1 hu1 v2 v3 v4 M; exact zk_none
    | succ nf23 ih23 =>
      have J86 : ∀ (u1 : Nat) (hu1 : g_Taxi G u1) (v3 : Int32) (v4 : Int32) (v5 : Int32) (v6 : Int32) (s0 : Int32) (M : z_Mem), z_K X F 7 0 0 G z_cvm b 0 0 86 [(0, .ref (o + 487)), (1, .ref u1), (3, .int v3), (4, .int v4), (5, .int v5), (6, .int v6)] [.int s0, .ref (o + 487)] M (F_Plan_planTimes_J86 o (F_Plan_planTimes_L23 o nf23) u1 v3 v4 v5 v6 s0 M) := by
        intro u1 hu1 v3 v4 v5 v6 s0 M
        unfold F_Plan_planTimes_J86
        refine zk_chk (fun h18 => ?_)
        refine zk_puti (pc := 86) B kx_3 (gPlan_s hG) 4 (by decide) kf_3_80 rfl rfl (z_n01 h18) (z_f01 h18) dX3_planTimes_86 ?_
        refine zk_lm (fun M7 => ?_)
        refine zk_aload_n (pc := 89) B dX3_planTimes_89 0 rfl rfl ?_
        refine zk_getr (pc := 90) B kx_3 (gPlan_s hG) 6 (by decide) kf_3_15 rfl (gPlan_f6 hG) dX3_planTimes_90 ?_
        refine zk_iload (pc := 93) B dX3_planTimes_93 3 rfl ?_
        refine zk_iload (pc := 95) B dX3_planTimes_95 5 rfl ?_
        refine zk_iconst (v := 0) (pc := 97) B dX3_planTimes_97 (by decide) ?_
        refine zk_max (pc := 98) B hR km_3_93 kst_max ki_Math kco_max (Nat.le_of_ble_eq_true rfl) (Nat.le_of_ble_eq_true rfl) (Nat.le_of_ble_eq_true rfl) (Nat.le_of_ble_eq_true rfl) dX3_planTimes_98 ?_
        refine zk_li (fun x8 => ?_)
        refine zk_iast (pc := 101) B (gPlan_t6 hG) dX3_planTimes_101 ?_
        refine zk_lm (fun M9 => ?_)
        refine zk_aload_n (pc := 102) B dX3_planTimes_102 0 rfl rfl ?_
        refine zk_getr (pc := 103) B kx_3 (gPlan_s hG) 7 (by decide) kf_3_18 rfl (gPlan_f7 hG) dX3_planTimes_103 ?_
        refine zk_iload (pc := 106) B dX3_planTimes_106 3 rfl ?_
        refine zk_aload_n (pc := 108) B dX3_planTimes_108 0 rfl rfl ?_
        refine zk_aload_n (pc := 109) B dX3_planTimes_109 1 rfl rfl ?_
        refine zk_iload (pc := 110) B dX3_planTimes_110 3 rfl ?_
        refine zk_iload_n (pc := 112) B dX3_planTimes_112 2 rfl rfl ?_
        refine zk_cpi (pc := 113) (k' := 0) (n' := 0) B rfl rfl (Nat.le_of_ble_eq_true rfl) (Nat.le_of_ble_eq_true rfl) (fun b hb => zr_V B hR kV_yX3_leavingTime km_3_98 kx_3 (gPlan_s hG) [.ref u1, .int v4, .int v3] rfl rfl (Nat.le_of_ble_eq_true rfl) dX3_planTimes_113 (m_Plan_leavingTime hX hG hu1 v4 v3 M9 b hb) ⟨Nat.le_of_ble_eq_true rfl, Nat.le_of_ble_eq_true rfl⟩ ⟨Nat.le_of_ble_eq_true rfl, Nat.le_of_ble_eq_true rfl⟩) (fun x10 _ => ?_)
        refine zk_iast (pc := 116) B (gPlan_t7 hG) dX3_planTimes_116 ?_
        refine zk_lm (fun M11 => ?_)
        refine zk_aload_n (pc := 117) B dX3_planTimes_117 0 rfl rfl ?_
        refine zk_getr (pc := 118) B kx_3 (gPlan_s hG) 8 (by decide) kf_3_21 rfl (gPlan_f8 hG) dX3_planTimes_118 ?_
        refine zk_iload (pc := 121) B dX3_planTimes_121 3 rfl ?_
        refine zk_aload_n (pc := 123) B dX3_planTimes_123 0 rfl rfl ?_
        refine zk_getr (pc := 124) B kx_3 (gPlan_s hG) 7 (by decide) kf_3_18 rfl (gPlan_f7 hG) dX3_planTimes_124 ?_
        refine zk_iload (pc := 127) B dX3_planTimes_127 3 rfl ?_
        refine zk_iald (pc := 129) B (gPlan_t7 hG) dX3_planTimes_129 ?_
        refine zk_aload_n (pc := 130) B dX3_planTimes_130 0 rfl rfl ?_
        refine zk_getr (pc := 131) B kx_3 (gPlan_s hG) 6 (by decide) kf_3_15 rfl (gPlan_f6 hG) dX3_planTimes_131 ?_
        refine zk_iload (pc := 134) B dX3_planTimes_134 3 rfl ?_
        refine zk_iald (pc := 136) B (gPlan_t6 hG) dX3_planTimes_136 ?_
        refine zk_iadd (pc := 137) B dX3_planTimes_137 ?_
        refine zk_iast (pc := 138) B (gPlan_t8 hG) dX3_planTimes_138 ?_
        refine zk_lm (fun M12 => ?_)
        refine zk_aload_n (pc := 139) B dX3_planTimes_139 0 rfl rfl ?_
        refine zk_getr (pc := 140) B kx_3 (gPlan_s hG) 9 (by decide) kf_3_24 rfl (gPlan_f9 hG) dX3_planTimes_140 ?_
        refine zk_iload (pc := 143) B dX3_planTimes_143 3 rfl ?_
        refine zk_aload_n (pc := 145) B dX3_planTimes_145 0 rfl rfl ?_
        refine zk_getr (pc := 146) B kx_3 (gPlan_s hG) 8 (by decide) kf_3_21 rfl (gPlan_f8 hG) dX3_planTimes_146 ?_
        refine zk_iload (pc := 149) B dX3_planTimes_149 3 rfl ?_
        refine zk_iald (pc := 151) B (gPlan_t8 hG) dX3_planTimes_151 ?_
        refine zk_aload_n (pc := 152) B dX3_planTimes_152 0 rfl rfl ?_
        refine zk_aload_n (pc := 153) B dX3_planTimes_153 0 rfl rfl ?_
        refine zk_getr (pc := 154) B kx_3 (gPlan_s hG) 5 (by decide) kf_3_9 rfl (gPlan_f5 hG) dX3_planTimes_154 ?_
        refine zk_iload (pc := 157) B dX3_planTimes_157 3 rfl ?_
        refine zk_iald (pc := 159) B (gPlan_t5 hG) dX3_planTimes_159 ?_
        refine zk_cpi (pc := 160) (k' := 0) (n' := 0) B rfl rfl (Nat.le_of_ble_eq_true rfl) (Nat.le_of_ble_eq_true rfl) (fun b hb => zr_V B hR kV_yX3_stayAt km_3_102 kx_3 (gPlan_s hG) [.int (M12.1 (o + 488) v4.toNatClampNeg)] rfl rfl (Nat.le_of_ble_eq_true rfl) dX3_planTimes_160 (m_Plan_stayAt hX hG (M12.1 (o + 488) v4.toNatClampNeg) M12 b hb) ⟨Nat.le_of_ble_eq_true rfl, Nat.le_of_ble_eq_true rfl⟩ ⟨Nat.le_of_ble_eq_true rfl, Nat.le_of_ble_eq_true rfl⟩) (fun x13 _ => ?_)
        refine zk_iadd (pc := 163) B dX3_planTimes_163 ?_
        refine zk_iast (pc := 164) B (gPlan_t9 hG) dX3_planTimes_164 ?_
        refine zk_lm (fun M14 => ?_)
        refine zk_aload_n (pc := 165) B dX3_planTimes_165 0 rfl rfl ?_
        refine zk_dup (pc := 166) B dX3_planTimes_166 rfl ?_
        refine zk_geti (pc := 167) B kx_3 (gPlan_s hG) 0 (by decide) kf_3_77 rfl dX3_planTimes_167 ?_
        refine zk_aload_n (pc := 170) B dX3_planTimes_170 0 rfl rfl ?_
        refine zk_getr (pc := 171) B kx_3 (gPlan_s hG) 6 (by decide) kf_3_15 rfl (gPlan_f6 hG) dX3_planTimes_171 ?_
        refine zk_iload (pc := 174) B dX3_planTimes_174 3 rfl ?_
        refine zk_iald (pc := 176) B (gPlan_t6 hG) dX3_planTimes_176 ?_
        refine zk_iadd (pc := 177) B dX3_planTimes_177 ?_
        refine zk_puti (pc := 178) B kx_3 (gPlan_s hG) 0 (by decide) kf_3_77 rfl rfl rfl rfl dX3_planTimes_178 ?_
        refine zk_lm (fun M15 => ?_)
        refine zk_iload (pc := 181) B dX3_planTimes_181 4 rfl ?_
        refine zk_istore_n (loc' := [(2, .int v5), (0, .ref (o + 487)), (1, .ref u1), (3, .int v3), (4, .int v4), (5, .int v5), (6, .int v6)]) (pc := 183) B dX3_planTimes_183 rfl (by decide) rfl ?_
        refine zk_aload_n (pc := 184) B dX3_planTimes_184 1 rfl rfl ?_
        refine zk_getr (pc := 185) B kx_3 (gPlan_s hG) 9 (by decide) kf_3_24 rfl (gPlan_f9 hG) dX3_planTimes_185 ?_
        refine zk_iload (pc := 188) B dX3_planTimes_188 4 rfl ?_
        refine zk_iald (pc := 190) B (gPlan_t9 hG) dX3_planTimes_190 ?_
        refine zk_li (fun x16 => ?_)
        refine zk_istore_n (loc' := [(3, .int x16), (2, .int v5), (0, .ref (o + 487)), (1, .ref u1), (4, .int v4), (5, .int v5), (6, .int v6)]) (pc := 191) B dX3_planTimes_191 rfl (by decide) rfl ?_
        refine zk_iinc (y := 1) (lf := fun x17 => [(4, .int x17), (3, .int x16), (2, .int v5), (0, .ref (o + 487)), (1, .ref u1), (5, .int v5), (6, .int v6)]) (pc := 192) B dX3_planTimes_192 4 rfl (by decide) (by decide) (fun _ => rfl) (fun x17 => ?_)
        refine zk_goto (tgt := 23) (pc := 195) B dX3_planTimes_195 (by decide) ?_
        refine zk_sub [3, 4, 2, 1, 0] rfl ?_
        exact ih23 u1 hu1 v5 x16 x17 M15
      have J85 : ∀ (u1 : Nat) (hu1 : g_Taxi G u1) (v3 : Int32) (v4 : Int32) (v5 : Int32) (v6 : Int32) (M : z_Mem), z_K X F 7 0 0 G z_cvm b 0 0 85 [(0, .ref (o + 487)), (1, .ref u1), (3, .int v3), (4, .int v4), (5, .int v5), (6, .int v6)] [.ref (o + 487)] M (F_Plan_planTimes_J85 o (F_Plan_planTimes_L23 o nf23) u1 v3 v4 v5 v6 M) := by
        intro u1 hu1 v3 v4 v5 v6 M
        unfold F_Plan_planTimes_J85
        refine zk_iconst (v := 0) (pc := 85) B dX3_planTimes_85 (by decide) ?_
        exact J86 u1 hu1 v3 v4 v5 v6 0 M
      intro u1 hu1 v2 v3 v4 M
      show z_K X F 7 0 0 G z_cvm b 0 0 23 [(0, .ref (o + 487)), (1, .ref u1), (2, .int v2), (3, .int v3), (4, .int v4)] [] M (F_Plan_planTimes_B23 o (F_Plan_planTimes_L23 o nf23) u1 v2 v3 v4 M)
      unfold F_Plan_planTimes_B23
      refine zk_iload (pc := 23) B dX3_planTimes_23 4 rfl ?_
      refine zk_aload_n (pc := 25) B dX3_planTimes_25 0 rfl rfl ?_
      refine zk_geti (pc := 26) B kx_3 (gPlan_s hG) 3 (by decide) kf_3_42 rfl dX3_planTimes_26 ?_
      refine zk_icmp_ge (tgt := 198) (pc := 29) B dX3_planTimes_29 (by decide) (fun _ => ?_) (fun _ => ?_)
      · exact zk_vret (pc := 198) B dX3_planTimes_198 rfl (Nat.le_of_ble_eq_true rfl) (Nat.le_of_ble_eq_true rfl) rfl
      · refine zk_iload (pc := 32) B dX3_planTimes_32 4 rfl ?_
        refine zk_bipush (v := 12) (pc := 34) B dX3_planTimes_34 (by decide) ?_
        refine zk_icmp_ge (tgt := 198) (pc := 36) B dX3_planTimes_36 (by decide) (fun _ => ?_) (fun _ => ?_)
        · exact zk_vret (pc := 198) B dX3_planTimes_198 rfl (Nat.le_of_ble_eq_true rfl) (Nat.le_of_ble_eq_true rfl) rfl
        · refine zk_aload_n (pc := 39) B dX3_planTimes_39 0 rfl rfl ?_
          refine zk_getr (pc := 40) B kx_3 (gPlan_s hG) 2 (by decide) kf_3_34 rfl (gPlan_f2 hG) dX3_planTimes_40 ?_
          refine zk_aload_n (pc := 43) B dX3_planTimes_43 0 rfl rfl ?_
          refine zk_getr (pc := 44) B kx_3 (gPlan_s hG) 5 (by decide) kf_3_9 rfl (gPlan_f5 hG) dX3_planTimes_44 ?_
          refine zk_iload (pc := 47) B dX3_planTimes_47 4 rfl ?_
          refine zk_iald (pc := 49) B (gPlan_t5 hG) dX3_planTimes_49 ?_
          refine zk_cpi (pc := 50) (k' := 0) (n' := 0) B rfl rfl (Nat.le_of_ble_eq_true rfl) (Nat.le_of_ble_eq_true rfl) (fun b hb => zr_V B hR kV_yX0_zoneOfStop km_3_84 kx_0 (gDesk_s (gPlan_t2 hG)) [.int (M.1 (o + 488) v4.toNatClampNeg)] rfl rfl (Nat.le_of_ble_eq_true rfl) dX3_planTimes_50 (m_Desk_zoneOfStop hX (gPlan_t2 hG) (M.1 (o + 488) v4.toNatClampNeg) M b hb) ⟨Nat.le_of_ble_eq_true rfl, Nat.le_of_ble_eq_true rfl⟩ ⟨Nat.le_of_ble_eq_true rfl, Nat.le_of_ble_eq_true rfl⟩) (fun x5 _ => ?_)
          refine zk_istore (loc' := [(5, .int x5), (0, .ref (o + 487)), (1, .ref u1), (2, .int v2), (3, .int v3), (4, .int v4)]) (pc := 53) B dX3_planTimes_53 (by decide) rfl ?_
          refine zk_aload_n (pc := 55) B dX3_planTimes_55 1 rfl rfl ?_
          refine zk_getr (pc := 56) B kx_3 (gPlan_s hG) 1 (by decide) kf_3_30 rfl (gPlan_f1 hG) dX3_planTimes_56 ?_
          refine zk_iload_n (pc := 59) B dX3_planTimes_59 3 rfl rfl ?_
          refine zk_iload (pc := 60) B dX3_planTimes_60 0 rfl ?_
          refine zk_cpi (pc := 62) (k' := 0) (n' := 0) B rfl rfl (Nat.le_of_ble_eq_true rfl) (Nat.le_of_ble_eq_true rfl) (fun b hb => zr_V B hR kV_yX9_wayMinutes km_3_87 kx_9 (gTown_s (gPlan_t1 hG)) [.int v2, .int x5] rfl rfl (Nat.le_of_ble_eq_true rfl) dX3_planTimes_62 (m_Town_wayMinutes hX (gPlan_t1 hG) v2 x5 M b hb) ⟨Nat.le_of_ble_eq_true rfl, Nat.le_of_ble_eq_true rfl⟩ ⟨Nat.le_of_ble_eq_true rfl, Nat.le_of_ble_eq_true rfl⟩) (fun x6 _ => ?_)
          refine zk_istore (loc' := [(6, .int x6), (5, .int x5), (0, .ref (o + 487)), (1, .ref u1), (2, .int v2), (3, .int v3), (4, .int v4)]) (pc := 65) B dX3_planTimes_65 (by decide) rfl ?_
          refine zk_aload_n (pc := 67) B dX3_planTimes_67 2 rfl rfl ?_
          refine zk_aload_n (pc := 68) B dX3_planTimes_68 2 rfl rfl ?_
          refine zk_geti (pc := 69) B kx_3 (gPlan_s hG) 4 (by decide) kf_3_80 rfl dX3_planTimes_69 ?_
          refine zk_if_eq (tgt := 85) (pc := 72) B dX3_planTimes_72 (by decide) (fun _ => ?_) (fun _ => ?_)
          · refine zk_sub [2, 3, 5, 6, 1, 0] rfl ?_
            exact J85 u1 hu1 v3 v4 x5 x6 M
          · refine zk_iload (pc := 75) B dX3_planTimes_75 0 rfl ?_
            refine zk_iconst (v := (-1)) (pc := 77) B dX3_planTimes_77 (by decide) ?_
            refine zk_icmp_eq (tgt := 85) (pc := 78) B dX3_planTimes_78 (by decide) (fun _ => ?_) (fun _ => ?_)
            · refine zk_sub [2, 3, 5, 6, 1, 0] rfl ?_
              exact J85 u1 hu1 v3 v4 x5 x6 M
            · refine zk_iconst (v := 1) (pc := 81) B dX3_planTimes_81 (by decide) ?_
              refine zk_goto (tgt := 86) (pc := 82) B dX3_planTimes_82 (by decide) ?_
              refine zk_sub [2, 3, 5, 6, 1, 0] rfl ?_
              exact J86 u1 hu1 v3 v4 x5 x6 1 M
  show z_K X F 7 0 0 G z_cvm b 0 0 0 [(0, .ref (o + 487)), (1, .ref r0)] [] M (F_Plan_planTimes o r0 M)
  unfold F_Plan_planTimes
  refine zk_aload_n (pc := 0) B dX3_planTimes_0 1 rfl rfl ?_
  refine zk_geti (pc := 1) B kx_6 (gTaxi_s hr0) 1 (by decide) kf_3_71 rfl dX3_planTimes_1 ?_
  refine zk_li (fun x1 => ?_)
  refine zk_istore_n (loc' := [(2, .int x1), (0, .ref (o + 487)), (1, .ref r0)]) (pc := 4) B dX3_planTimes_4 rfl (by decide) rfl ?_
  refine zk_aload_n (pc := 5) B dX3_planTimes_5 2 rfl rfl ?_
  refine zk_geti (pc := 6) B kx_6 (gTaxi_s hr0) 2 (by decide) kf_3_74 rfl dX3_planTimes_6 ?_
  refine zk_li (fun x2 => ?_)
  refine zk_istore_n (loc' := [(3, .int x2), (2, .int x1), (0, .ref (o + 487)), (1, .ref r0)]) (pc := 9) B dX3_planTimes_9 rfl (by decide) rfl ?_
  refine zk_aload_n (pc := 10) B dX3_planTimes_10 2 rfl rfl ?_
  refine zk_iconst (v := 0) (pc := 11) B dX3_planTimes_11 (by decide) ?_
  refine zk_puti (pc := 12) B kx_3 (gPlan_s hG) 0 (by decide) kf_3_77 rfl rfl rfl rfl dX3_planTimes_12 ?_
  refine zk_lm (fun M3 => ?_)
  refine zk_aload_n (pc := 15) B dX3_planTimes_15 2 rfl rfl ?_
  refine zk_iconst (v := 1) (pc := 16) B dX3_planTimes_16 (by decide) ?_
  refine zk_puti (pc := 17) B kx_3 (gPlan_s hG) 4 (by decide) kf_3_80 rfl rfl rfl rfl dX3_planTimes_17 ?_
  refine zk_lm (fun M4 => ?_)
  refine zk_iconst (v := 0) (pc := 20) B dX3_planTimes_20 (by decide) ?_
  refine zk_istore (loc' := [(4, .int 0), (3, .int x2), (2, .int x1), (0, .ref (o + 487)), (1, .ref r0)]) (pc := 21) B dX3_planTimes_21 (by decide) rfl ?_
  refine zk_sub [3, 4, 2, 1, 0] rfl ?_
  exact L23 10000 r0 hr0 x1 x2 0 M4
