/-! ===== walks of the class (by program) ===== -/
set_option maxHeartbeats 4000000 in
set_option maxRecDepth 100000 in
theorem m_Sys_ride {X : z_X} (hX : z_ok X) {G : z_Gr} {o : Nat} (hG : g_Sys G o) (p0 : Int32) (p1 : Int32) (M : z_Mem) (b : Int32) (h : F_Sys_ride o p0 p1 M = some b) : z_Ct X yX11_ride cX11_ride 4 (some .int) ({ frames := 1, cells := 0, slots := 0, locals := 21 } : Room) [.ref o, .int p0, .int p1] G M (fun o9 G9 M9 => G9 = G ∧ (o9, M9) = (z_ci M) b) := by
  refine z_enter hX (by decide) (Nat.le_of_ble_eq_true rfl) h (fun F B hR => ?_)
  show z_K X F 4 0 0 G (z_ci M) b 0 0 0 [(0, .ref o), (1, .int p0), (2, .int p1)] [] M (F_Sys_ride o p0 p1 M)
  unfold F_Sys_ride
  refine zk_aload_n (pc := 0) B dX11_ride_0 0 rfl rfl ?_
  refine zk_iload_n (pc := 1) B dX11_ride_1 1 rfl rfl ?_
  refine zk_cpr (pc := 2) (k' := 0) (n' := 0) B rfl rfl (Nat.le_of_ble_eq_true rfl) (Nat.le_of_ble_eq_true rfl) (fun b hb => zr_V B hR kV_yX11_existingRide km_11_289 kx_11 (gSys_s hG) [.int p0] rfl rfl (Nat.le_of_ble_eq_true rfl) dX11_ride_2 (m_Sys_existingRide hX hG p0 M b hb) ⟨Nat.le_of_ble_eq_true rfl, Nat.le_of_ble_eq_true rfl⟩ ⟨Nat.le_of_ble_eq_true rfl, Nat.le_of_ble_eq_true rfl⟩) (fun t1 h2 => ?_)
  have ht1 : g_Ride G t1 := fr_Sys_existingRide hG h2
  refine zk_astore_n (loc' := [(3, .ref t1), (0, .ref o), (1, .int p0), (2, .int p1)]) (pc := 5) B dX11_ride_5 rfl (by decide) rfl ?_
  refine zk_iload_n (pc := 6) B dX11_ride_6 3 rfl rfl ?_
  refine zk_if (fun hs => zk_tin (v := 0) (tgt := 76) (pc := 7) B dX11_ride_7 hs (by decide) (by decide) rfl (by decide) ?_) (fun hn7_0 => ?_)
  · refine zk_aload_n (pc := 76) B dX11_ride_76 0 rfl rfl ?_
    refine zk_geti (pc := 77) B kx_5 (gRide_s ht1) 0 (by decide) kf_11_293 rfl dX11_ride_77 ?_
    exact zk_iret (pc := 80) B dX11_ride_80 rfl rfl (Nat.le_of_ble_eq_true rfl) (Nat.le_of_ble_eq_true rfl) rfl
  · refine zk_if (fun hs => zk_tin (v := 1) (tgt := 81) (pc := 7) B dX11_ride_7 hs (by decide) (by decide) rfl (by decide) ?_) (fun hn7_1 => ?_)
    · refine zk_aload_n (pc := 81) B dX11_ride_81 0 rfl rfl ?_
      refine zk_geti (pc := 82) B kx_5 (gRide_s ht1) 1 (by decide) kf_11_298 rfl dX11_ride_82 ?_
      exact zk_iret (pc := 85) B dX11_ride_85 rfl rfl (Nat.le_of_ble_eq_true rfl) (Nat.le_of_ble_eq_true rfl) rfl
    · refine zk_if (fun hs => zk_tin (v := 2) (tgt := 86) (pc := 7) B dX11_ride_7 hs (by decide) (by decide) rfl (by decide) ?_) (fun hn7_2 => ?_)
      · refine zk_aload_n (pc := 86) B dX11_ride_86 0 rfl rfl ?_
        refine zk_geti (pc := 87) B kx_5 (gRide_s ht1) 2 (by decide) kf_11_301 rfl dX11_ride_87 ?_
        exact zk_iret (pc := 90) B dX11_ride_90 rfl rfl (Nat.le_of_ble_eq_true rfl) (Nat.le_of_ble_eq_true rfl) rfl
      · refine zk_if (fun hs => zk_tin (v := 3) (tgt := 91) (pc := 7) B dX11_ride_7 hs (by decide) (by decide) rfl (by decide) ?_) (fun hn7_3 => ?_)
        · refine zk_aload_n (pc := 91) B dX11_ride_91 0 rfl rfl ?_
          refine zk_geti (pc := 92) B kx_5 (gRide_s ht1) 3 (by decide) kf_11_304 rfl dX11_ride_92 ?_
          exact zk_iret (pc := 95) B dX11_ride_95 rfl rfl (Nat.le_of_ble_eq_true rfl) (Nat.le_of_ble_eq_true rfl) rfl
        · refine zk_if (fun hs => zk_tin (v := 4) (tgt := 96) (pc := 7) B dX11_ride_7 hs (by decide) (by decide) rfl (by decide) ?_) (fun hn7_4 => ?_)
          · refine zk_aload_n (pc := 96) B dX11_ride_96 0 rfl rfl ?_
            refine zk_geti (pc := 97) B kx_5 (gRide_s ht1) 4 (by decide) kf_11_307 rfl dX11_ride_97 ?_
            exact zk_iret (pc := 100) B dX11_ride_100 rfl rfl (Nat.le_of_ble_eq_true rfl) (Nat.le_of_ble_eq_true rfl) rfl
          · refine zk_if (fun hs => zk_tin (v := 5) (tgt := 101) (pc := 7) B dX11_ride_7 hs (by decide) (by decide) rfl (by decide) ?_) (fun hn7_5 => ?_)
            · refine zk_aload_n (pc := 101) B dX11_ride_101 0 rfl rfl ?_
              refine zk_geti (pc := 102) B kx_5 (gRide_s ht1) 5 (by decide) kf_11_310 rfl dX11_ride_102 ?_
              exact zk_iret (pc := 105) B dX11_ride_105 rfl rfl (Nat.le_of_ble_eq_true rfl) (Nat.le_of_ble_eq_true rfl) rfl
            · refine zk_if (fun hs => zk_tin (v := 6) (tgt := 106) (pc := 7) B dX11_ride_7 hs (by decide) (by decide) rfl (by decide) ?_) (fun hn7_6 => ?_)
              · refine zk_aload_n (pc := 106) B dX11_ride_106 0 rfl rfl ?_
                refine zk_geti (pc := 107) B kx_5 (gRide_s ht1) 6 (by decide) kf_11_313 rfl dX11_ride_107 ?_
                exact zk_iret (pc := 110) B dX11_ride_110 rfl rfl (Nat.le_of_ble_eq_true rfl) (Nat.le_of_ble_eq_true rfl) rfl
              · refine zk_if (fun hs => zk_tin (v := 7) (tgt := 111) (pc := 7) B dX11_ride_7 hs (by decide) (by decide) rfl (by decide) ?_) (fun hn7_7 => ?_)
                · refine zk_aload_n (pc := 111) B dX11_ride_111 0 rfl rfl ?_
                  refine zk_geti (pc := 112) B kx_5 (gRide_s ht1) 7 (by decide) kf_11_316 rfl dX11_ride_112 ?_
                  exact zk_iret (pc := 115) B dX11_ride_115 rfl rfl (Nat.le_of_ble_eq_true rfl) (Nat.le_of_ble_eq_true rfl) rfl
                · refine zk_if (fun hs => zk_tin (v := 8) (tgt := 116) (pc := 7) B dX11_ride_7 hs (by decide) (by decide) rfl (by decide) ?_) (fun hn7_8 => ?_)
                  · refine zk_aload_n (pc := 116) B dX11_ride_116 0 rfl rfl ?_
                    refine zk_geti (pc := 117) B kx_5 (gRide_s ht1) 8 (by decide) kf_11_319 rfl dX11_ride_117 ?_
                    exact zk_iret (pc := 120) B dX11_ride_120 rfl rfl (Nat.le_of_ble_eq_true rfl) (Nat.le_of_ble_eq_true rfl) rfl
                  · refine zk_if (fun hs => zk_tin (v := 9) (tgt := 121) (pc := 7) B dX11_ride_7 hs (by decide) (by decide) rfl (by decide) ?_) (fun hn7_9 => ?_)
                    · refine zk_aload_n (pc := 121) B dX11_ride_121 0 rfl rfl ?_
                      refine zk_geti (pc := 122) B kx_5 (gRide_s ht1) 9 (by decide) kf_11_322 rfl dX11_ride_122 ?_
                      exact zk_iret (pc := 125) B dX11_ride_125 rfl rfl (Nat.le_of_ble_eq_true rfl) (Nat.le_of_ble_eq_true rfl) rfl
                    · refine zk_if (fun hs => zk_tin (v := 10) (tgt := 126) (pc := 7) B dX11_ride_7 hs (by decide) (by decide) rfl (by decide) ?_) (fun hn7_10 => ?_)
                      · refine zk_aload_n (pc := 126) B dX11_ride_126 0 rfl rfl ?_
                        refine zk_geti (pc := 127) B kx_5 (gRide_s ht1) 10 (by decide) kf_11_325 rfl dX11_ride_127 ?_
                        exact zk_iret (pc := 130) B dX11_ride_130 rfl rfl (Nat.le_of_ble_eq_true rfl) (Nat.le_of_ble_eq_true rfl) rfl
                      · refine zk_if (fun hs => zk_tin (v := 11) (tgt := 131) (pc := 7) B dX11_ride_7 hs (by decide) (by decide) rfl (by decide) ?_) (fun hn7_11 => ?_)
                        · refine zk_aload_n (pc := 131) B dX11_ride_131 0 rfl rfl ?_
                          refine zk_geti (pc := 132) B kx_5 (gRide_s ht1) 11 (by decide) kf_11_328 rfl dX11_ride_132 ?_
                          exact zk_iret (pc := 135) B dX11_ride_135 rfl rfl (Nat.le_of_ble_eq_true rfl) (Nat.le_of_ble_eq_true rfl) rfl
                        · refine zk_if (fun hs => zk_tin (v := 12) (tgt := 136) (pc := 7) B dX11_ride_7 hs (by decide) (by decide) rfl (by decide) ?_) (fun hn7_12 => ?_)
                          · refine zk_aload_n (pc := 136) B dX11_ride_136 0 rfl rfl ?_
                            refine zk_geti (pc := 137) B kx_5 (gRide_s ht1) 12 (by decide) kf_11_331 rfl dX11_ride_137 ?_
                            exact zk_iret (pc := 140) B dX11_ride_140 rfl rfl (Nat.le_of_ble_eq_true rfl) (Nat.le_of_ble_eq_true rfl) rfl
                          · refine zk_if (fun hs => zk_tin (v := 13) (tgt := 141) (pc := 7) B dX11_ride_7 hs (by decide) (by decide) rfl (by decide) ?_) (fun hn7_13 => ?_)
                            · refine zk_aload_n (pc := 141) B dX11_ride_141 0 rfl rfl ?_
                              refine zk_geti (pc := 142) B kx_5 (gRide_s ht1) 13 (by decide) kf_11_334 rfl dX11_ride_142 ?_
                              refine zk_if_eq (tgt := 152) (pc := 145) B dX11_ride_145 (by decide) (fun _ => ?_) (fun _ => ?_)
                              · refine zk_iconst (v := 0) (pc := 152) B dX11_ride_152 (by decide) ?_
                                exact zk_iret (pc := 153) B dX11_ride_153 rfl rfl (Nat.le_of_ble_eq_true rfl) (Nat.le_of_ble_eq_true rfl) rfl
                              · refine zk_iconst (v := 1) (pc := 148) B dX11_ride_148 (by decide) ?_
                                refine zk_goto (tgt := 153) (pc := 149) B dX11_ride_149 (by decide) ?_
                                exact zk_iret (pc := 153) B dX11_ride_153 rfl rfl (Nat.le_of_ble_eq_true rfl) (Nat.le_of_ble_eq_true rfl) rfl
                            · refine zk_tout (pc := 7)  (tgt := 154) B dX11_ride_7 (by have q0 := z_ne hn7_0 (z := 0) (by decide); have q1 := z_ne hn7_1 (z := 1) (by decide); have q2 := z_ne hn7_2 (z := 2) (by decide); have q3 := z_ne hn7_3 (z := 3) (by decide); have q4 := z_ne hn7_4 (z := 4) (by decide); have q5 := z_ne hn7_5 (z := 5) (by decide); have q6 := z_ne hn7_6 (z := 6) (by decide); have q7 := z_ne hn7_7 (z := 7) (by decide); have q8 := z_ne hn7_8 (z := 8) (by decide); have q9 := z_ne hn7_9 (z := 9) (by decide); have q10 := z_ne hn7_10 (z := 10) (by decide); have q11 := z_ne hn7_11 (z := 11) (by decide); have q12 := z_ne hn7_12 (z := 12) (by decide); have q13 := z_ne hn7_13 (z := 13) (by decide); omega) (by decide) ?_
                              exact zk_none
set_option maxHeartbeats 4000000 in
set_option maxRecDepth 100000 in
theorem m_Sys_checkZone {X : z_X} (hX : z_ok X) {G : z_Gr} {o : Nat} (hG : g_Sys G o) (p0 : Int32) (M : z_Mem) (b : Unit) (h : F_Sys_checkZone o p0 M = some b) : z_Ct X yX11_checkZone cX11_checkZone 2 none ({ frames := 0, cells := 0, slots := 0, locals := 0 } : Room) [.ref o, .int p0] G M (fun o9 G9 M9 => G9 = G ∧ (o9, M9) = (z_cu M) b) := by
  refine z_enter hX (by decide) (Nat.le_of_ble_eq_true rfl) h (fun F B hR => ?_)
  have J15 : z_K X F 2 0 0 G (z_cu M) b 0 0 15 [] [] M (F_Sys_checkZone_J15 o M) := by
    unfold F_Sys_checkZone_J15
    exact zk_none
  show z_K X F 2 0 0 G (z_cu M) b 0 0 0 [(0, .ref o), (1, .int p0)] [] M (F_Sys_checkZone o p0 M)
  unfold F_Sys_checkZone
  refine zk_iload_n (pc := 0) B dX11_checkZone_0 1 rfl rfl ?_
  refine zk_if_lt (tgt := 15) (pc := 1) B dX11_checkZone_1 (by decide) (fun _ => ?_) (fun _ => ?_)
  · refine zk_sub [] rfl ?_
    exact J15
  · refine zk_iload_n (pc := 4) B dX11_checkZone_4 1 rfl rfl ?_
    refine zk_aload_n (pc := 5) B dX11_checkZone_5 0 rfl rfl ?_
    refine zk_getr (pc := 6) B kx_11 (gSys_s hG) 5 (by decide) kf_11_29 rfl (gSys_f5 hG) dX11_checkZone_6 ?_
    refine zk_geti (pc := 9) B kx_9 (gTown_s (gSys_t5 hG)) 0 (by decide) kf_11_181 rfl dX11_checkZone_9 ?_
    refine zk_icmp_lt (tgt := 26) (pc := 12) B dX11_checkZone_12 (by decide) (fun _ => ?_) (fun _ => ?_)
    · exact zk_vret (pc := 26) B dX11_checkZone_26 rfl (Nat.le_of_ble_eq_true rfl) (Nat.le_of_ble_eq_true rfl) rfl
    · refine zk_sub [] rfl ?_
      exact J15
set_option maxHeartbeats 4000000 in
set_option maxRecDepth 100000 in
theorem m_Sys_checkRange {X : z_X} (hX : z_ok X) {G : z_Gr} (p0 : Int32) (p1 : Int32) (p2 : Int32) (M : z_Mem) (b : Unit) (h : F_Sys_checkRange p0 p1 p2 M = some b) : z_Ct X yX11_checkRange cX11_checkRange 3 none ({ frames := 0, cells := 0, slots := 0, locals := 0 } : Room) [.int p0, .int p1, .int p2] G M (fun o9 G9 M9 => G9 = G ∧ (o9, M9) = (z_cu M) b) := by
  refine z_enter hX (by decide) (Nat.le_of_ble_eq_true rfl) h (fun F B hR => ?_)
  have J10 : z_K X F 3 0 0 G (z_cu M) b 0 0 10 [] [] M (F_Sys_checkRange_J10 M) := by
    unfold F_Sys_checkRange_J10
    exact zk_none
  show z_K X F 3 0 0 G (z_cu M) b 0 0 0 [(0, .int p0), (1, .int p1), (2, .int p2)] [] M (F_Sys_checkRange p0 p1 p2 M)
  unfold F_Sys_checkRange
  refine zk_iload_n (pc := 0) B dX11_checkRange_0 0 rfl rfl ?_
  refine zk_iload_n (pc := 1) B dX11_checkRange_1 1 rfl rfl ?_
  refine zk_icmp_lt (tgt := 10) (pc := 2) B dX11_checkRange_2 (by decide) (fun _ => ?_) (fun _ => ?_)
  · refine zk_sub [] rfl ?_
    exact J10
  · refine zk_iload_n (pc := 5) B dX11_checkRange_5 0 rfl rfl ?_
    refine zk_iload_n (pc := 6) B dX11_checkRange_6 2 rfl rfl ?_
    refine zk_icmp_le (tgt := 21) (pc := 7) B dX11_checkRange_7 (by decide) (fun _ => ?_) (fun _ => ?_)
    · exact zk_vret (pc := 21) B dX11_checkRange_21 rfl (Nat.le_of_ble_eq_true rfl) (Nat.le_of_ble_eq_true rfl) rfl
    · refine zk_sub [] rfl ?_
      exact J10
set_option maxHeartbeats 4000000 in
set_option maxRecDepth 100000 in
theorem m_Sys_findOffer {X : z_X} (hX : z_ok X) {G : z_Gr} {o : Nat} (hG : g_Sys G o) {r0 : Nat} (hr0 : g_Ride G r0) (p1 : Int32) (M : z_Mem) (b : z_Mem) (h : F_Sys_findOffer o r0 p1 M = some b) : z_Ct X yX11_findOffer cX11_findOffer 4 none ({ frames := 5, cells := 0, slots := 0, locals := 139 } : Room) [.ref o, .ref r0, .int p1] G M (fun o9 G9 M9 => G9 = G ∧ (o9, M9) = z_cvm b) := by
  refine z_enter hX (by decide) (Nat.le_of_ble_eq_true rfl) h (fun F B hR => ?_)
  have J142 : ∀ (s0 : Int32) (s1 : Nat) (hs1 : g_Ride G s1) (M : z_Mem), z_K X F 4 0 0 G z_cvm b 0 0 142 [] [.int s0, .ref s1] M (F_Sys_findOffer_J142 o s0 s1 M) := by
    intro s0 s1 hs1 M
    unfold F_Sys_findOffer_J142
    refine zk_puti (pc := 142) B kx_5 (gRide_s hs1) 0 (by decide) kf_11_293 rfl rfl rfl rfl dX11_findOffer_142 ?_
    refine zk_lm (fun M10 => ?_)
    exact zk_vret (pc := 145) B dX11_findOffer_145 rfl (Nat.le_of_ble_eq_true rfl) (Nat.le_of_ble_eq_true rfl) rfl
  have J108 : ∀ (u1 : Nat) (hu1 : g_Ride G u1) (M : z_Mem), z_K X F 4 0 0 G z_cvm b 0 0 108 [(0, .ref o), (1, .ref u1)] [] M (F_Sys_findOffer_J108 o u1 M) := by
    intro u1 hu1 M
    unfold F_Sys_findOffer_J108
    refine zk_aload_n (pc := 108) B dX11_findOffer_108 1 rfl rfl ?_
    refine zk_aload_n (pc := 109) B dX11_findOffer_109 0 rfl rfl ?_
    refine zk_getr (pc := 110) B kx_11 (gSys_s hG) 6 (by decide) kf_11_36 rfl (gSys_f6 hG) dX11_findOffer_110 ?_
    refine zk_geti (pc := 113) B kx_0 (gDesk_s (gSys_t6 hG)) 0 (by decide) kf_11_190 rfl dX11_findOffer_113 ?_
    refine zk_aload_n (pc := 116) B dX11_findOffer_116 0 rfl rfl ?_
    refine zk_getr (pc := 117) B kx_11 (gSys_s hG) 6 (by decide) kf_11_36 rfl (gSys_f6 hG) dX11_findOffer_117 ?_
    refine zk_iconst (v := 2) (pc := 120) B dX11_findOffer_120 (by decide) ?_
    refine zk_cpi (pc := 121) (k' := 0) (n' := 0) B rfl rfl (Nat.le_of_ble_eq_true rfl) (Nat.le_of_ble_eq_true rfl) (fun b hb => zr_V B hR kV_yX0_ruleValue km_11_213 kx_0 (gDesk_s (gSys_t6 hG)) [.int 2] rfl rfl (Nat.le_of_ble_eq_true rfl) dX11_findOffer_121 (m_Desk_ruleValue hX (gSys_t6 hG) 2 M b hb) ⟨Nat.le_of_ble_eq_true rfl, Nat.le_of_ble_eq_true rfl⟩ ⟨Nat.le_of_ble_eq_true rfl, Nat.le_of_ble_eq_true rfl⟩) (fun x8 _ => ?_)
    refine zk_iadd (pc := 124) B dX11_findOffer_124 ?_
    refine zk_puti (pc := 125) B kx_5 (gRide_s hu1) 18 (by decide) kf_11_353 rfl rfl rfl rfl dX11_findOffer_125 ?_
    refine zk_lm (fun M9 => ?_)
    refine zk_aload_n (pc := 128) B dX11_findOffer_128 1 rfl rfl ?_
    refine zk_aload_n (pc := 129) B dX11_findOffer_129 1 rfl rfl ?_
    refine zk_geti (pc := 130) B kx_5 (gRide_s hu1) 14 (by decide) kf_11_341 rfl dX11_findOffer_130 ?_
    refine zk_iconst (v := (-1)) (pc := 133) B dX11_findOffer_133 (by decide) ?_
    refine zk_icmp_ne (tgt := 141) (pc := 134) B dX11_findOffer_134 (by decide) (fun _ => ?_) (fun _ => ?_)
    · refine zk_iconst (v := 0) (pc := 141) B dX11_findOffer_141 (by decide) ?_
      refine zk_sub [] rfl ?_
      exact J142 0 u1 hu1 M9
    · refine zk_iconst (v := 4) (pc := 137) B dX11_findOffer_137 (by decide) ?_
      refine zk_goto (tgt := 142) (pc := 138) B dX11_findOffer_138 (by decide) ?_
      refine zk_sub [] rfl ?_
      exact J142 4 u1 hu1 M9
  have L2 : ∀ (nf2 : Nat), ∀ (u1 : Nat) (hu1 : g_Ride G u1) (v2 : Int32) (v3 : Int32) (M : z_Mem), z_K X F 4 0 0 G z_cvm b 0 0 2 [(0, .ref o), (1, .ref u1), (2, .int v2), (3, .int v3)] [] M (F_Sys_findOffer_L2 o nf2 u1 v2 v3 M) := by
    intro nf2
    induction nf2 with
    | zero => intro u1 hu1 v2 v3 M; exact zk_none
    | succ nf2 ih2 =>
      have J64 : ∀ (u1 : Nat) (hu1 : g_Ride G u1) (v2 : Int32) (v3 : Int32) (M : z_Mem), z_K X F 4 0 0 G z_cvm b 0 0 64 [(0, .ref o), (1, .ref u1), (2, .int v2), (3, .int v3)] [] M (F_Sys_findOffer_J64 o (F_Sys_findOffer_L2 o nf2) u1 v2 v3 M) := by
        intro u1 hu1 v2 v3 M
        unfold F_Sys_findOffer_J64
        refine zk_aload_n (pc := 64) B dX11_findOffer_64 1 rfl rfl ?_
        refine zk_iload_n (pc := 65) B dX11_findOffer_65 3 rfl rfl ?_
        refine zk_puti (pc := 66) B kx_5 (gRide_s hu1) 14 (by decide) kf_11_341 rfl rfl rfl rfl dX11_findOffer_66 ?_
        refine zk_lm (fun M11 => ?_)
        refine zk_aload_n (pc := 69) B dX11_findOffer_69 1 rfl rfl ?_
        refine zk_aload_n (pc := 70) B dX11_findOffer_70 0 rfl rfl ?_
        refine zk_getr (pc := 71) B kx_11 (gSys_s hG) 11 (by decide) kf_11_68 rfl (gSys_f11 hG) dX11_findOffer_71 ?_
        refine zk_geti (pc := 74) B kx_2 (gInsertion_s hG) 0 (by decide) kf_11_360 rfl dX11_findOffer_74 ?_
        refine zk_puti (pc := 77) B kx_5 (gRide_s hu1) 15 (by decide) kf_11_344 rfl rfl rfl rfl dX11_findOffer_77 ?_
        refine zk_lm (fun M12 => ?_)
        refine zk_aload_n (pc := 80) B dX11_findOffer_80 1 rfl rfl ?_
        refine zk_aload_n (pc := 81) B dX11_findOffer_81 0 rfl rfl ?_
        refine zk_getr (pc := 82) B kx_11 (gSys_s hG) 11 (by decide) kf_11_68 rfl (gSys_f11 hG) dX11_findOffer_82 ?_
        refine zk_geti (pc := 85) B kx_2 (gInsertion_s hG) 1 (by decide) kf_11_413 rfl dX11_findOffer_85 ?_
        refine zk_puti (pc := 88) B kx_5 (gRide_s hu1) 16 (by decide) kf_11_347 rfl rfl rfl rfl dX11_findOffer_88 ?_
        refine zk_lm (fun M13 => ?_)
        refine zk_aload_n (pc := 91) B dX11_findOffer_91 1 rfl rfl ?_
        refine zk_aload_n (pc := 92) B dX11_findOffer_92 0 rfl rfl ?_
        refine zk_getr (pc := 93) B kx_11 (gSys_s hG) 11 (by decide) kf_11_68 rfl (gSys_f11 hG) dX11_findOffer_93 ?_
        refine zk_geti (pc := 96) B kx_2 (gInsertion_s hG) 2 (by decide) kf_11_416 rfl dX11_findOffer_96 ?_
        refine zk_puti (pc := 99) B kx_5 (gRide_s hu1) 17 (by decide) kf_11_350 rfl rfl rfl rfl dX11_findOffer_99 ?_
        refine zk_lm (fun M14 => ?_)
        refine zk_iinc (y := 1) (lf := fun x15 => [(3, .int x15), (0, .ref o), (1, .ref u1), (2, .int v2)]) (pc := 102) B dX11_findOffer_102 3 rfl (by decide) (by decide) (fun _ => rfl) (fun x15 => ?_)
        refine zk_goto (tgt := 2) (pc := 105) B dX11_findOffer_105 (by decide) ?_
        refine zk_sub [1, 2, 3, 0] rfl ?_
        exact ih2 u1 hu1 v2 x15 M14
      intro u1 hu1 v2 v3 M
      show z_K X F 4 0 0 G z_cvm b 0 0 2 [(0, .ref o), (1, .ref u1), (2, .int v2), (3, .int v3)] [] M (F_Sys_findOffer_B2 o (F_Sys_findOffer_L2 o nf2) u1 v2 v3 M)
      unfold F_Sys_findOffer_B2
      refine zk_iload_n (pc := 2) B dX11_findOffer_2 3 rfl rfl ?_
      refine zk_aload_n (pc := 3) B dX11_findOffer_3 0 rfl rfl ?_
      refine zk_getr (pc := 4) B kx_11 (gSys_s hG) 6 (by decide) kf_11_36 rfl (gSys_f6 hG) dX11_findOffer_4 ?_
      refine zk_geti (pc := 7) B kx_0 (gDesk_s (gSys_t6 hG)) 3 (by decide) kf_11_144 rfl dX11_findOffer_7 ?_
      refine zk_icmp_ge (tgt := 108) (pc := 10) B dX11_findOffer_10 (by decide) (fun _ => ?_) (fun _ => ?_)
      · refine zk_sub [0, 1] rfl ?_
        exact J108 u1 hu1 M
      · refine zk_iload_n (pc := 13) B dX11_findOffer_13 3 rfl rfl ?_
        refine zk_iconst (v := 4) (pc := 14) B dX11_findOffer_14 (by decide) ?_
        refine zk_icmp_ge (tgt := 108) (pc := 15) B dX11_findOffer_15 (by decide) (fun _ => ?_) (fun _ => ?_)
        · refine zk_sub [0, 1] rfl ?_
          exact J108 u1 hu1 M
        · refine zk_aload_n (pc := 18) B dX11_findOffer_18 0 rfl rfl ?_
          refine zk_getr (pc := 19) B kx_11 (gSys_s hG) 11 (by decide) kf_11_68 rfl (gSys_f11 hG) dX11_findOffer_19 ?_
          refine zk_aload_n (pc := 22) B dX11_findOffer_22 0 rfl rfl ?_
          refine zk_getr (pc := 23) B kx_11 (gSys_s hG) 6 (by decide) kf_11_36 rfl (gSys_f6 hG) dX11_findOffer_23 ?_
          refine zk_getr (pc := 26) B kx_0 (gDesk_s (gSys_t6 hG)) 6 (by decide) kf_11_366 rfl (gDesk_f6 (gSys_t6 hG)) dX11_findOffer_26 ?_
          refine zk_iload_n (pc := 29) B dX11_findOffer_29 3 rfl rfl ?_
          refine zk_aald (pc := 30) B (gDesk_t6 (gSys_t6 hG)) (by decide) (by decide) (fun h2 => gDesk_e6 (gSys_t6 hG) _ (z_lt h2)) dX11_findOffer_30 (fun h2 => zk_lr (fun t1 h2e => ?_))
          have ht1 : g_Taxi G t1 := by rw [h2e]; exact gDesk_k6 (gSys_t6 hG) _ (z_lt h2)
          refine zk_iload_n (pc := 31) B dX11_findOffer_31 2 rfl rfl ?_
          refine zk_cim (pc := 32) (k' := 0) (n' := 0) B rfl rfl (Nat.le_of_ble_eq_true rfl) (Nat.le_of_ble_eq_true rfl) (fun b hb => zr_V B hR kV_yX2_findBest km_11_356 kx_2 (gInsertion_s hG) [.ref t1, .int v2] rfl rfl (Nat.le_of_ble_eq_true rfl) dX11_findOffer_32 (m_Insertion_findBest hX hG ht1 v2 M b hb) ⟨Nat.le_of_ble_eq_true rfl, Nat.le_of_ble_eq_true rfl⟩ ⟨Nat.le_of_ble_eq_true rfl, Nat.le_of_ble_eq_true rfl⟩) (fun x4 M3 => ?_)
          refine zk_if_eq (tgt := 102) (pc := 35) B dX11_findOffer_35 (by decide) (fun _ => ?_) (fun _ => ?_)
          · refine zk_iinc (y := 1) (lf := fun x5 => [(3, .int x5), (0, .ref o), (1, .ref u1), (2, .int v2)]) (pc := 102) B dX11_findOffer_102 3 rfl (by decide) (by decide) (fun _ => rfl) (fun x5 => ?_)
            refine zk_goto (tgt := 2) (pc := 105) B dX11_findOffer_105 (by decide) ?_
            refine zk_sub [1, 2, 3, 0] rfl ?_
            exact ih2 u1 hu1 v2 x5 M3
          · refine zk_aload_n (pc := 38) B dX11_findOffer_38 1 rfl rfl ?_
            refine zk_geti (pc := 39) B kx_5 (gRide_s hu1) 14 (by decide) kf_11_341 rfl dX11_findOffer_39 ?_
            refine zk_iconst (v := (-1)) (pc := 42) B dX11_findOffer_42 (by decide) ?_
            refine zk_icmp_eq (tgt := 64) (pc := 43) B dX11_findOffer_43 (by decide) (fun _ => ?_) (fun _ => ?_)
            · exact J64 u1 hu1 v2 v3 M3
            · refine zk_aload_n (pc := 46) B dX11_findOffer_46 0 rfl rfl ?_
              refine zk_getr (pc := 47) B kx_11 (gSys_s hG) 11 (by decide) kf_11_68 rfl (gSys_f11 hG) dX11_findOffer_47 ?_
              refine zk_aload_n (pc := 50) B dX11_findOffer_50 1 rfl rfl ?_
              refine zk_geti (pc := 51) B kx_5 (gRide_s hu1) 15 (by decide) kf_11_344 rfl dX11_findOffer_51 ?_
              refine zk_aload_n (pc := 54) B dX11_findOffer_54 1 rfl rfl ?_
              refine zk_geti (pc := 55) B kx_5 (gRide_s hu1) 16 (by decide) kf_11_347 rfl dX11_findOffer_55 ?_
              refine zk_cpi (pc := 58) (k' := 0) (n' := 0) B rfl rfl (Nat.le_of_ble_eq_true rfl) (Nat.le_of_ble_eq_true rfl) (fun b hb => zr_V B hR kV_yX2_isBetterThan km_11_409 kx_2 (gInsertion_s hG) [.int (M3.1 u1 15), .int (M3.1 u1 16)] rfl rfl (Nat.le_of_ble_eq_true rfl) dX11_findOffer_58 (m_Insertion_isBetterThan hX hG (M3.1 u1 15) (M3.1 u1 16) M3 b hb) ⟨Nat.le_of_ble_eq_true rfl, Nat.le_of_ble_eq_true rfl⟩ ⟨Nat.le_of_ble_eq_true rfl, Nat.le_of_ble_eq_true rfl⟩) (fun x6 _ => ?_)
              refine zk_if_eq (tgt := 102) (pc := 61) B dX11_findOffer_61 (by decide) (fun _ => ?_) (fun _ => ?_)
              · refine zk_iinc (y := 1) (lf := fun x7 => [(3, .int x7), (0, .ref o), (1, .ref u1), (2, .int v2)]) (pc := 102) B dX11_findOffer_102 3 rfl (by decide) (by decide) (fun _ => rfl) (fun x7 => ?_)
                refine zk_goto (tgt := 2) (pc := 105) B dX11_findOffer_105 (by decide) ?_
                refine zk_sub [1, 2, 3, 0] rfl ?_
                exact ih2 u1 hu1 v2 x7 M3
              · exact J64 u1 hu1 v2 v3 M3
  show z_K X F 4 0 0 G z_cvm b 0 0 0 [(0, .ref o), (1, .ref r0), (2, .int p1)] [] M (F_Sys_findOffer o r0 p1 M)
  unfold F_Sys_findOffer
  refine zk_iconst (v := 0) (pc := 0) B dX11_findOffer_0 (by decide) ?_
  refine zk_istore_n (loc' := [(3, .int 0), (0, .ref o), (1, .ref r0), (2, .int p1)]) (pc := 1) B dX11_findOffer_1 rfl (by decide) rfl ?_
  refine zk_sub [1, 2, 3, 0] rfl ?_
  exact L2 10000 r0 hr0 p1 0 M
set_option maxHeartbeats 4000000 in
set_option maxRecDepth 100000 in
theorem m_Sys_ask {X : z_X} (hX : z_ok X) {G : z_Gr} {o : Nat} (hG : g_Sys G o) (p0 : Int32) (p1 : Int32) (p2 : Int32) (p3 : Int32) (p4 : Int32) (M : z_Mem) (b : Int32 × z_Mem) (h : F_Sys_ask o p0 p1 p2 p3 p4 M = some b) : z_Ct X yX11_ask cX11_ask 8 (some .int) ({ frames := 6, cells := 0, slots := 0, locals := 162 } : Room) [.ref o, .int p0, .int p1, .int p2, .int p3, .int p4] G M (fun o9 G9 M9 => G9 = G ∧ (o9, M9) = z_cim b) := by
  refine z_enter hX (by decide) (Nat.le_of_ble_eq_true rfl) h (fun F B hR => ?_)
  show z_K X F 8 0 0 G z_cim b 0 0 0 [(0, .ref o), (1, .int p0), (2, .int p1), (3, .int p2), (4, .int p3), (5, .int p4)] [] M (F_Sys_ask o p0 p1 p2 p3 p4 M)
  unfold F_Sys_ask
  refine zk_aload_n (pc := 0) B dX11_ask_0 0 rfl rfl ?_
  refine zk_iload_n (pc := 1) B dX11_ask_1 1 rfl rfl ?_
  refine zk_cup (pc := 2) (k' := 0) (n' := 0) B rfl rfl (Nat.le_of_ble_eq_true rfl) (Nat.le_of_ble_eq_true rfl) (fun b hb => zr_V B hR kV_yX11_checkZone km_11_216 kx_11 (gSys_s hG) [.int p0] rfl rfl (Nat.le_of_ble_eq_true rfl) dX11_ask_2 (m_Sys_checkZone hX hG p0 M b hb) ⟨Nat.le_of_ble_eq_true rfl, Nat.le_of_ble_eq_true rfl⟩ ⟨Nat.le_of_ble_eq_true rfl, Nat.le_of_ble_eq_true rfl⟩) ?_
  refine zk_aload_n (pc := 5) B dX11_ask_5 0 rfl rfl ?_
  refine zk_iload_n (pc := 6) B dX11_ask_6 2 rfl rfl ?_
  refine zk_cup (pc := 7) (k' := 0) (n' := 0) B rfl rfl (Nat.le_of_ble_eq_true rfl) (Nat.le_of_ble_eq_true rfl) (fun b hb => zr_V B hR kV_yX11_checkZone km_11_216 kx_11 (gSys_s hG) [.int p1] rfl rfl (Nat.le_of_ble_eq_true rfl) dX11_ask_7 (m_Sys_checkZone hX hG p1 M b hb) ⟨Nat.le_of_ble_eq_true rfl, Nat.le_of_ble_eq_true rfl⟩ ⟨Nat.le_of_ble_eq_true rfl, Nat.le_of_ble_eq_true rfl⟩) ?_
  refine zk_iload_n (pc := 10) B dX11_ask_10 3 rfl rfl ?_
  refine zk_iconst (v := 1) (pc := 11) B dX11_ask_11 (by decide) ?_
  refine zk_bipush (v := 6) (pc := 12) B dX11_ask_12 (by decide) ?_
  refine zk_cup (pc := 14) (k' := 0) (n' := 0) B rfl rfl (Nat.le_of_ble_eq_true rfl) (Nat.le_of_ble_eq_true rfl) (fun b hb => zr_S B hR kS_yX11_checkRange km_11_386 [.int p2, .int 1, .int 6] rfl rfl (Nat.le_of_ble_eq_true rfl) dX11_ask_14 (m_Sys_checkRange hX p2 1 6 M b hb) ⟨Nat.le_of_ble_eq_true rfl, Nat.le_of_ble_eq_true rfl⟩ ⟨Nat.le_of_ble_eq_true rfl, Nat.le_of_ble_eq_true rfl⟩) ?_
  refine zk_iload (pc := 17) B dX11_ask_17 4 rfl ?_
  refine zk_iconst (v := 0) (pc := 19) B dX11_ask_19 (by decide) ?_
  refine zk_sipush (v := 600) (pc := 20) B dX11_ask_20 (by decide) ?_
  refine zk_cup (pc := 23) (k' := 0) (n' := 0) B rfl rfl (Nat.le_of_ble_eq_true rfl) (Nat.le_of_ble_eq_true rfl) (fun b hb => zr_S B hR kS_yX11_checkRange km_11_386 [.int p3, .int 0, .int 600] rfl rfl (Nat.le_of_ble_eq_true rfl) dX11_ask_23 (m_Sys_checkRange hX p3 0 600 M b hb) ⟨Nat.le_of_ble_eq_true rfl, Nat.le_of_ble_eq_true rfl⟩ ⟨Nat.le_of_ble_eq_true rfl, Nat.le_of_ble_eq_true rfl⟩) ?_
  refine zk_iload (pc := 26) B dX11_ask_26 5 rfl ?_
  refine zk_iconst (v := 0) (pc := 28) B dX11_ask_28 (by decide) ?_
  refine zk_sipush (v := 200) (pc := 29) B dX11_ask_29 (by decide) ?_
  refine zk_cup (pc := 32) (k' := 0) (n' := 0) B rfl rfl (Nat.le_of_ble_eq_true rfl) (Nat.le_of_ble_eq_true rfl) (fun b hb => zr_S B hR kS_yX11_checkRange km_11_386 [.int p4, .int 0, .int 200] rfl rfl (Nat.le_of_ble_eq_true rfl) dX11_ask_32 (m_Sys_checkRange hX p4 0 200 M b hb) ⟨Nat.le_of_ble_eq_true rfl, Nat.le_of_ble_eq_true rfl⟩ ⟨Nat.le_of_ble_eq_true rfl, Nat.le_of_ble_eq_true rfl⟩) ?_
  refine zk_iload_n (pc := 35) B dX11_ask_35 1 rfl rfl ?_
  refine zk_iload_n (pc := 36) B dX11_ask_36 2 rfl rfl ?_
  refine zk_icmp_ne (tgt := 51) (pc := 37) B dX11_ask_37 (by decide) (fun _ => ?_) (fun _ => ?_)
  · refine zk_aload_n (pc := 51) B dX11_ask_51 0 rfl rfl ?_
    refine zk_getr (pc := 52) B kx_11 (gSys_s hG) 6 (by decide) kf_11_36 rfl (gSys_f6 hG) dX11_ask_52 ?_
    refine zk_geti (pc := 55) B kx_0 (gDesk_s (gSys_t6 hG)) 4 (by decide) kf_11_187 rfl dX11_ask_55 ?_
    refine zk_li (fun x1 => ?_)
    refine zk_istore (loc' := [(6, .int x1), (0, .ref o), (1, .int p0), (2, .int p1), (3, .int p2), (4, .int p3), (5, .int p4)]) (pc := 58) B dX11_ask_58 (by decide) rfl ?_
    refine zk_iload (pc := 60) B dX11_ask_60 0 rfl ?_
    refine zk_if_lt (tgt := 72) (pc := 62) B dX11_ask_62 (by decide) (fun _ => ?_) (fun _ => ?_)
    · refine zk_bipush (v := (-2)) (pc := 72) B dX11_ask_72 (by decide) ?_
      exact zk_iret (pc := 74) B dX11_ask_74 rfl rfl (Nat.le_of_ble_eq_true rfl) (Nat.le_of_ble_eq_true rfl) rfl
    · refine zk_iload (pc := 65) B dX11_ask_65 0 rfl ?_
      refine zk_bipush (v := 24) (pc := 67) B dX11_ask_67 (by decide) ?_
      refine zk_icmp_lt (tgt := 75) (pc := 69) B dX11_ask_69 (by decide) (fun _ => ?_) (fun _ => ?_)
      · refine zk_aload_n (pc := 75) B dX11_ask_75 1 rfl rfl ?_
        refine zk_getr (pc := 76) B kx_11 (gSys_s hG) 7 (by decide) kf_11_43 rfl (gSys_f7 hG) dX11_ask_76 ?_
        refine zk_aload_n (pc := 79) B dX11_ask_79 1 rfl rfl ?_
        refine zk_getr (pc := 80) B kx_11 (gSys_s hG) 6 (by decide) kf_11_36 rfl (gSys_f6 hG) dX11_ask_80 ?_
        refine zk_cvm (pc := 83) (k' := 0) (n' := 0) B rfl rfl (Nat.le_of_ble_eq_true rfl) (Nat.le_of_ble_eq_true rfl) (fun b hb => zr_V B hR kV_yX1_note km_11_392 kx_1 (gHistory_s hG) [.ref (o + 5)] rfl rfl (Nat.le_of_ble_eq_true rfl) dX11_ask_83 (m_History_note hX hG (gSys_t6 hG) M b hb) ⟨Nat.le_of_ble_eq_true rfl, Nat.le_of_ble_eq_true rfl⟩ ⟨Nat.le_of_ble_eq_true rfl, Nat.le_of_ble_eq_true rfl⟩) (fun M2 => ?_)
        refine zk_aload_n (pc := 86) B dX11_ask_86 1 rfl rfl ?_
        refine zk_getr (pc := 87) B kx_11 (gSys_s hG) 6 (by decide) kf_11_36 rfl (gSys_f6 hG) dX11_ask_87 ?_
        refine zk_getr (pc := 90) B kx_0 (gDesk_s (gSys_t6 hG)) 7 (by decide) kf_11_395 rfl (gDesk_f7 (gSys_t6 hG)) dX11_ask_90 ?_
        refine zk_iload (pc := 93) B dX11_ask_93 0 rfl ?_
        refine zk_aald (pc := 95) B (gDesk_t7 (gSys_t6 hG)) (by decide) (by decide) (fun h4 => gDesk_e7 (gSys_t6 hG) _ (z_lt h4)) dX11_ask_95 (fun h4 => zk_lr (fun t3 h4e => ?_))
        have ht3 : g_Ride G t3 := by rw [h4e]; exact gDesk_k7 (gSys_t6 hG) _ (z_lt h4)
        refine zk_astore (loc' := [(7, .ref t3), (6, .int x1), (0, .ref o), (1, .int p0), (2, .int p1), (3, .int p2), (4, .int p3), (5, .int p4)]) (pc := 96) B dX11_ask_96 (by decide) rfl ?_
        refine zk_aload (pc := 98) B dX11_ask_98 0 rfl ?_
        refine zk_iload_n (pc := 100) B dX11_ask_100 3 rfl rfl ?_
        refine zk_iload_n (pc := 101) B dX11_ask_101 4 rfl rfl ?_
        refine zk_iload_n (pc := 102) B dX11_ask_102 5 rfl rfl ?_
        refine zk_iload (pc := 103) B dX11_ask_103 7 rfl ?_
        refine zk_cvm (pc := 105) (k' := 0) (n' := 0) B rfl rfl (Nat.le_of_ble_eq_true rfl) (Nat.le_of_ble_eq_true rfl) (fun b hb => zr_V B hR kV_yX5_begin km_11_399 kx_5 (gRide_s ht3) [.int p0, .int p1, .int p2, .int p4] rfl rfl (Nat.le_of_ble_eq_true rfl) dX11_ask_105 (m_Ride_begin hX ht3 p0 p1 p2 p4 M2 b hb) ⟨Nat.le_of_ble_eq_true rfl, Nat.le_of_ble_eq_true rfl⟩ ⟨Nat.le_of_ble_eq_true rfl, Nat.le_of_ble_eq_true rfl⟩) (fun M5 => ?_)
        refine zk_aload (pc := 108) B dX11_ask_108 0 rfl ?_
        refine zk_aload_n (pc := 110) B dX11_ask_110 2 rfl rfl ?_
        refine zk_getr (pc := 111) B kx_11 (gSys_s hG) 6 (by decide) kf_11_36 rfl (gSys_f6 hG) dX11_ask_111 ?_
        refine zk_geti (pc := 114) B kx_0 (gDesk_s (gSys_t6 hG)) 0 (by decide) kf_11_190 rfl dX11_ask_114 ?_
        refine zk_iload (pc := 117) B dX11_ask_117 6 rfl ?_
        refine zk_iadd (pc := 119) B dX11_ask_119 ?_
        refine zk_puti (pc := 120) B kx_5 (gRide_s ht3) 4 (by decide) kf_11_307 rfl rfl rfl rfl dX11_ask_120 ?_
        refine zk_lm (fun M6 => ?_)
        refine zk_aload (pc := 123) B dX11_ask_123 0 rfl ?_
        refine zk_aload (pc := 125) B dX11_ask_125 0 rfl ?_
        refine zk_geti (pc := 127) B kx_5 (gRide_s ht3) 4 (by decide) kf_11_307 rfl dX11_ask_127 ?_
        refine zk_aload_n (pc := 130) B dX11_ask_130 2 rfl rfl ?_
        refine zk_getr (pc := 131) B kx_11 (gSys_s hG) 6 (by decide) kf_11_36 rfl (gSys_f6 hG) dX11_ask_131 ?_
        refine zk_iconst (v := 0) (pc := 134) B dX11_ask_134 (by decide) ?_
        refine zk_cpi (pc := 135) (k' := 0) (n' := 0) B rfl rfl (Nat.le_of_ble_eq_true rfl) (Nat.le_of_ble_eq_true rfl) (fun b hb => zr_V B hR kV_yX0_ruleValue km_11_213 kx_0 (gDesk_s (gSys_t6 hG)) [.int 0] rfl rfl (Nat.le_of_ble_eq_true rfl) dX11_ask_135 (m_Desk_ruleValue hX (gSys_t6 hG) 0 M6 b hb) ⟨Nat.le_of_ble_eq_true rfl, Nat.le_of_ble_eq_true rfl⟩ ⟨Nat.le_of_ble_eq_true rfl, Nat.le_of_ble_eq_true rfl⟩) (fun x7 _ => ?_)
        refine zk_iadd (pc := 138) B dX11_ask_138 ?_
        refine zk_puti (pc := 139) B kx_5 (gRide_s ht3) 5 (by decide) kf_11_310 rfl rfl rfl rfl dX11_ask_139 ?_
        refine zk_lm (fun M8 => ?_)
        refine zk_aload (pc := 142) B dX11_ask_142 0 rfl ?_
        refine zk_aload_n (pc := 144) B dX11_ask_144 2 rfl rfl ?_
        refine zk_getr (pc := 145) B kx_11 (gSys_s hG) 5 (by decide) kf_11_29 rfl (gSys_f5 hG) dX11_ask_145 ?_
        refine zk_iload_n (pc := 148) B dX11_ask_148 3 rfl rfl ?_
        refine zk_iload_n (pc := 149) B dX11_ask_149 4 rfl rfl ?_
        refine zk_cpi (pc := 150) (k' := 0) (n' := 0) B rfl rfl (Nat.le_of_ble_eq_true rfl) (Nat.le_of_ble_eq_true rfl) (fun b hb => zr_V B hR kV_yX9_wayMinutes km_11_219 kx_9 (gTown_s (gSys_t5 hG)) [.int p0, .int p1] rfl rfl (Nat.le_of_ble_eq_true rfl) dX11_ask_150 (m_Town_wayMinutes hX (gSys_t5 hG) p0 p1 M8 b hb) ⟨Nat.le_of_ble_eq_true rfl, Nat.le_of_ble_eq_true rfl⟩ ⟨Nat.le_of_ble_eq_true rfl, Nat.le_of_ble_eq_true rfl⟩) (fun x9 _ => ?_)
        refine zk_cvm (pc := 153) (k' := 0) (n' := 0) B rfl rfl (Nat.le_of_ble_eq_true rfl) (Nat.le_of_ble_eq_true rfl) (fun b hb => zr_V B hR kV_yX5_setDirect km_11_402 kx_5 (gRide_s ht3) [.int x9] rfl rfl (Nat.le_of_ble_eq_true rfl) dX11_ask_153 (m_Ride_setDirect hX ht3 x9 M8 b hb) ⟨Nat.le_of_ble_eq_true rfl, Nat.le_of_ble_eq_true rfl⟩ ⟨Nat.le_of_ble_eq_true rfl, Nat.le_of_ble_eq_true rfl⟩) (fun M10 => ?_)
        refine zk_aload_n (pc := 156) B dX11_ask_156 2 rfl rfl ?_
        refine zk_getr (pc := 157) B kx_11 (gSys_s hG) 6 (by decide) kf_11_36 rfl (gSys_f6 hG) dX11_ask_157 ?_
        refine zk_dup (pc := 160) B dX11_ask_160 rfl ?_
        refine zk_geti (pc := 161) B kx_0 (gDesk_s (gSys_t6 hG)) 4 (by decide) kf_11_187 rfl dX11_ask_161 ?_
        refine zk_iconst (v := 1) (pc := 164) B dX11_ask_164 (by decide) ?_
        refine zk_iadd (pc := 165) B dX11_ask_165 ?_
        refine zk_puti (pc := 166) B kx_0 (gDesk_s (gSys_t6 hG)) 4 (by decide) kf_11_187 rfl rfl rfl rfl dX11_ask_166 ?_
        refine zk_lm (fun M11 => ?_)
        refine zk_aload_n (pc := 169) B dX11_ask_169 2 rfl rfl ?_
        refine zk_aload (pc := 170) B dX11_ask_170 0 rfl ?_
        refine zk_iload (pc := 172) B dX11_ask_172 1 rfl ?_
        refine zk_cvm (pc := 174) (k' := 0) (n' := 0) B rfl rfl (Nat.le_of_ble_eq_true rfl) (Nat.le_of_ble_eq_true rfl) (fun b hb => zr_V B hR kV_yX11_findOffer km_11_405 kx_11 (gSys_s hG) [.ref t3, .int x1] rfl rfl (Nat.le_of_ble_eq_true rfl) dX11_ask_174 (m_Sys_findOffer hX hG ht3 x1 M11 b hb) ⟨Nat.le_of_ble_eq_true rfl, Nat.le_of_ble_eq_true rfl⟩ ⟨Nat.le_of_ble_eq_true rfl, Nat.le_of_ble_eq_true rfl⟩) (fun M12 => ?_)
        refine zk_iload (pc := 177) B dX11_ask_177 1 rfl ?_
        exact zk_iret (pc := 179) B dX11_ask_179 rfl rfl (Nat.le_of_ble_eq_true rfl) (Nat.le_of_ble_eq_true rfl) rfl
      · refine zk_bipush (v := (-2)) (pc := 72) B dX11_ask_72 (by decide) ?_
        exact zk_iret (pc := 74) B dX11_ask_74 rfl rfl (Nat.le_of_ble_eq_true rfl) (Nat.le_of_ble_eq_true rfl) rfl
  · exact zk_none
set_option maxHeartbeats 4000000 in
set_option maxRecDepth 100000 in
theorem m_Sys_accept {X : z_X} (hX : z_ok X) {G : z_Gr} {o : Nat} (hG : g_Sys G o) (p0 : Int32) (M : z_Mem) (b : Int32 × z_Mem) (h : F_Sys_accept o p0 M = some b) : z_Ct X yX11_accept cX11_accept 4 (some .int) ({ frames := 5, cells := 0, slots := 0, locals := 139 } : Room) [.ref o, .int p0] G M (fun o9 G9 M9 => G9 = G ∧ (o9, M9) = z_cim b) := by
  refine z_enter hX (by decide) (Nat.le_of_ble_eq_true rfl) h (fun F B hR => ?_)
  show z_K X F 4 0 0 G z_cim b 0 0 0 [(0, .ref o), (1, .int p0)] [] M (F_Sys_accept o p0 M)
  unfold F_Sys_accept
  refine zk_aload_n (pc := 0) B dX11_accept_0 0 rfl rfl ?_
  refine zk_iload_n (pc := 1) B dX11_accept_1 1 rfl rfl ?_
  refine zk_cpr (pc := 2) (k' := 0) (n' := 0) B rfl rfl (Nat.le_of_ble_eq_true rfl) (Nat.le_of_ble_eq_true rfl) (fun b hb => zr_V B hR kV_yX11_existingRide km_11_289 kx_11 (gSys_s hG) [.int p0] rfl rfl (Nat.le_of_ble_eq_true rfl) dX11_accept_2 (m_Sys_existingRide hX hG p0 M b hb) ⟨Nat.le_of_ble_eq_true rfl, Nat.le_of_ble_eq_true rfl⟩ ⟨Nat.le_of_ble_eq_true rfl, Nat.le_of_ble_eq_true rfl⟩) (fun t1 h2 => ?_)
  have ht1 : g_Ride G t1 := fr_Sys_existingRide hG h2
  refine zk_astore_n (loc' := [(2, .ref t1), (0, .ref o), (1, .int p0)]) (pc := 5) B dX11_accept_5 rfl (by decide) rfl ?_
  refine zk_aload_n (pc := 6) B dX11_accept_6 0 rfl rfl ?_
  refine zk_geti (pc := 7) B kx_5 (gRide_s ht1) 0 (by decide) kf_11_293 rfl dX11_accept_7 ?_
  refine zk_if_ne (tgt := 27) (pc := 10) B dX11_accept_10 (by decide) (fun _ => ?_) (fun _ => ?_)
  · refine zk_bipush (v := (-2)) (pc := 27) B dX11_accept_27 (by decide) ?_
    exact zk_iret (pc := 29) B dX11_accept_29 rfl rfl (Nat.le_of_ble_eq_true rfl) (Nat.le_of_ble_eq_true rfl) rfl
  · refine zk_aload_n (pc := 13) B dX11_accept_13 1 rfl rfl ?_
    refine zk_getr (pc := 14) B kx_11 (gSys_s hG) 6 (by decide) kf_11_36 rfl (gSys_f6 hG) dX11_accept_14 ?_
    refine zk_aload_n (pc := 17) B dX11_accept_17 0 rfl rfl ?_
    refine zk_geti (pc := 18) B kx_5 (gRide_s ht1) 14 (by decide) kf_11_341 rfl dX11_accept_18 ?_
    refine zk_cpi (pc := 21) (k' := 0) (n' := 0) B rfl rfl (Nat.le_of_ble_eq_true rfl) (Nat.le_of_ble_eq_true rfl) (fun b hb => zr_V B hR kV_yX0_hasTaxi km_11_363 kx_0 (gDesk_s (gSys_t6 hG)) [.int (M.1 t1 14)] rfl rfl (Nat.le_of_ble_eq_true rfl) dX11_accept_21 (m_Desk_hasTaxi hX (gSys_t6 hG) (M.1 t1 14) M b hb) ⟨Nat.le_of_ble_eq_true rfl, Nat.le_of_ble_eq_true rfl⟩ ⟨Nat.le_of_ble_eq_true rfl, Nat.le_of_ble_eq_true rfl⟩) (fun x3 _ => ?_)
    refine zk_if_ne (tgt := 30) (pc := 24) B dX11_accept_24 (by decide) (fun _ => ?_) (fun _ => ?_)
    · refine zk_aload_n (pc := 30) B dX11_accept_30 1 rfl rfl ?_
      refine zk_getr (pc := 31) B kx_11 (gSys_s hG) 6 (by decide) kf_11_36 rfl (gSys_f6 hG) dX11_accept_31 ?_
      refine zk_getr (pc := 34) B kx_0 (gDesk_s (gSys_t6 hG)) 6 (by decide) kf_11_366 rfl (gDesk_f6 (gSys_t6 hG)) dX11_accept_34 ?_
      refine zk_aload_n (pc := 37) B dX11_accept_37 0 rfl rfl ?_
      refine zk_geti (pc := 38) B kx_5 (gRide_s ht1) 14 (by decide) kf_11_341 rfl dX11_accept_38 ?_
      refine zk_aald (pc := 41) B (gDesk_t6 (gSys_t6 hG)) (by decide) (by decide) (fun h5 => gDesk_e6 (gSys_t6 hG) _ (z_lt h5)) dX11_accept_41 (fun h5 => zk_lr (fun t4 h5e => ?_))
      have ht4 : g_Taxi G t4 := by rw [h5e]; exact gDesk_k6 (gSys_t6 hG) _ (z_lt h5)
      refine zk_astore_n (loc' := [(3, .ref t4), (2, .ref t1), (0, .ref o), (1, .int p0)]) (pc := 42) B dX11_accept_42 rfl (by decide) rfl ?_
      refine zk_aload_n (pc := 43) B dX11_accept_43 2 rfl rfl ?_
      refine zk_getr (pc := 44) B kx_11 (gSys_s hG) 11 (by decide) kf_11_68 rfl (gSys_f11 hG) dX11_accept_44 ?_
      refine zk_aload_n (pc := 47) B dX11_accept_47 0 rfl rfl ?_
      refine zk_iload_n (pc := 48) B dX11_accept_48 3 rfl rfl ?_
      refine zk_cim (pc := 49) (k' := 0) (n' := 0) B rfl rfl (Nat.le_of_ble_eq_true rfl) (Nat.le_of_ble_eq_true rfl) (fun b hb => zr_V B hR kV_yX2_findBest km_11_356 kx_2 (gInsertion_s hG) [.ref t4, .int p0] rfl rfl (Nat.le_of_ble_eq_true rfl) dX11_accept_49 (m_Insertion_findBest hX hG ht4 p0 M b hb) ⟨Nat.le_of_ble_eq_true rfl, Nat.le_of_ble_eq_true rfl⟩ ⟨Nat.le_of_ble_eq_true rfl, Nat.le_of_ble_eq_true rfl⟩) (fun x7 M6 => ?_)
      refine zk_if_ne (tgt := 58) (pc := 52) B dX11_accept_52 (by decide) (fun _ => ?_) (fun _ => ?_)
      · refine zk_aload_n (pc := 58) B dX11_accept_58 2 rfl rfl ?_
        refine zk_getr (pc := 59) B kx_11 (gSys_s hG) 7 (by decide) kf_11_43 rfl (gSys_f7 hG) dX11_accept_59 ?_
        refine zk_aload_n (pc := 62) B dX11_accept_62 2 rfl rfl ?_
        refine zk_getr (pc := 63) B kx_11 (gSys_s hG) 6 (by decide) kf_11_36 rfl (gSys_f6 hG) dX11_accept_63 ?_
        refine zk_cvm (pc := 66) (k' := 0) (n' := 0) B rfl rfl (Nat.le_of_ble_eq_true rfl) (Nat.le_of_ble_eq_true rfl) (fun b hb => zr_V B hR kV_yX1_note km_11_392 kx_1 (gHistory_s hG) [.ref (o + 5)] rfl rfl (Nat.le_of_ble_eq_true rfl) dX11_accept_66 (m_History_note hX hG (gSys_t6 hG) M6 b hb) ⟨Nat.le_of_ble_eq_true rfl, Nat.le_of_ble_eq_true rfl⟩ ⟨Nat.le_of_ble_eq_true rfl, Nat.le_of_ble_eq_true rfl⟩) (fun M8 => ?_)
        refine zk_aload_n (pc := 69) B dX11_accept_69 0 rfl rfl ?_
        refine zk_aload_n (pc := 70) B dX11_accept_70 2 rfl rfl ?_
        refine zk_getr (pc := 71) B kx_11 (gSys_s hG) 11 (by decide) kf_11_68 rfl (gSys_f11 hG) dX11_accept_71 ?_
        refine zk_geti (pc := 74) B kx_2 (gInsertion_s hG) 3 (by decide) kf_11_419 rfl dX11_accept_74 ?_
        refine zk_iload_n (pc := 77) B dX11_accept_77 3 rfl rfl ?_
        refine zk_cpi (pc := 78) (k' := 0) (n' := 0) B rfl rfl (Nat.le_of_ble_eq_true rfl) (Nat.le_of_ble_eq_true rfl) (fun b hb => zr_S B hR kS_yX0_pickupOf km_11_422 [.int p0] rfl rfl (Nat.le_of_ble_eq_true rfl) dX11_accept_78 (m_Desk_pickupOf hX p0 M8 b hb) ⟨Nat.le_of_ble_eq_true rfl, Nat.le_of_ble_eq_true rfl⟩ ⟨Nat.le_of_ble_eq_true rfl, Nat.le_of_ble_eq_true rfl⟩) (fun x9 _ => ?_)
        refine zk_cvm (pc := 81) (k' := 0) (n' := 0) B rfl rfl (Nat.le_of_ble_eq_true rfl) (Nat.le_of_ble_eq_true rfl) (fun b hb => zr_V B hR kV_yX6_insertStop km_11_425 kx_6 (gTaxi_s ht4) [.int (M8.1 (o + 494) 3), .int x9] rfl rfl (Nat.le_of_ble_eq_true rfl) dX11_accept_81 (m_Taxi_insertStop hX ht4 (M8.1 (o + 494) 3) x9 M8 b hb) ⟨Nat.le_of_ble_eq_true rfl, Nat.le_of_ble_eq_true rfl⟩ ⟨Nat.le_of_ble_eq_true rfl, Nat.le_of_ble_eq_true rfl⟩) (fun M10 => ?_)
        refine zk_aload_n (pc := 84) B dX11_accept_84 0 rfl rfl ?_
        refine zk_aload_n (pc := 85) B dX11_accept_85 2 rfl rfl ?_
        refine zk_getr (pc := 86) B kx_11 (gSys_s hG) 11 (by decide) kf_11_68 rfl (gSys_f11 hG) dX11_accept_86 ?_
        refine zk_geti (pc := 89) B kx_2 (gInsertion_s hG) 4 (by decide) kf_11_429 rfl dX11_accept_89 ?_
        refine zk_iload_n (pc := 92) B dX11_accept_92 3 rfl rfl ?_
        refine zk_cpi (pc := 93) (k' := 0) (n' := 0) B rfl rfl (Nat.le_of_ble_eq_true rfl) (Nat.le_of_ble_eq_true rfl) (fun b hb => zr_S B hR kS_yX0_dropOf km_11_432 [.int p0] rfl rfl (Nat.le_of_ble_eq_true rfl) dX11_accept_93 (m_Desk_dropOf hX p0 M10 b hb) ⟨Nat.le_of_ble_eq_true rfl, Nat.le_of_ble_eq_true rfl⟩ ⟨Nat.le_of_ble_eq_true rfl, Nat.le_of_ble_eq_true rfl⟩) (fun x11 _ => ?_)
        refine zk_cvm (pc := 96) (k' := 0) (n' := 0) B rfl rfl (Nat.le_of_ble_eq_true rfl) (Nat.le_of_ble_eq_true rfl) (fun b hb => zr_V B hR kV_yX6_insertStop km_11_425 kx_6 (gTaxi_s ht4) [.int (M10.1 (o + 494) 4), .int x11] rfl rfl (Nat.le_of_ble_eq_true rfl) dX11_accept_96 (m_Taxi_insertStop hX ht4 (M10.1 (o + 494) 4) x11 M10 b hb) ⟨Nat.le_of_ble_eq_true rfl, Nat.le_of_ble_eq_true rfl⟩ ⟨Nat.le_of_ble_eq_true rfl, Nat.le_of_ble_eq_true rfl⟩) (fun M12 => ?_)
        refine zk_aload_n (pc := 99) B dX11_accept_99 1 rfl rfl ?_
        refine zk_iconst (v := 1) (pc := 100) B dX11_accept_100 (by decide) ?_
        refine zk_puti (pc := 101) B kx_5 (gRide_s ht1) 0 (by decide) kf_11_293 rfl rfl rfl rfl dX11_accept_101 ?_
        refine zk_lm (fun M13 => ?_)
        refine zk_aload_n (pc := 104) B dX11_accept_104 1 rfl rfl ?_
        refine zk_aload_n (pc := 105) B dX11_accept_105 1 rfl rfl ?_
        refine zk_geti (pc := 106) B kx_5 (gRide_s ht1) 14 (by decide) kf_11_341 rfl dX11_accept_106 ?_
        refine zk_puti (pc := 109) B kx_5 (gRide_s ht1) 9 (by decide) kf_11_322 rfl rfl rfl rfl dX11_accept_109 ?_
        refine zk_lm (fun M14 => ?_)
        refine zk_aload_n (pc := 112) B dX11_accept_112 2 rfl rfl ?_
        refine zk_getr (pc := 113) B kx_11 (gSys_s hG) 11 (by decide) kf_11_68 rfl (gSys_f11 hG) dX11_accept_113 ?_
        refine zk_geti (pc := 116) B kx_2 (gInsertion_s hG) 1 (by decide) kf_11_413 rfl dX11_accept_116 ?_
        exact zk_iret (pc := 119) B dX11_accept_119 rfl rfl (Nat.le_of_ble_eq_true rfl) (Nat.le_of_ble_eq_true rfl) rfl
      · refine zk_bipush (v := (-3)) (pc := 55) B dX11_accept_55 (by decide) ?_
        exact zk_iret (pc := 57) B dX11_accept_57 rfl rfl (Nat.le_of_ble_eq_true rfl) (Nat.le_of_ble_eq_true rfl) rfl
    · refine zk_bipush (v := (-2)) (pc := 27) B dX11_accept_27 (by decide) ?_
      exact zk_iret (pc := 29) B dX11_accept_29 rfl rfl (Nat.le_of_ble_eq_true rfl) (Nat.le_of_ble_eq_true rfl) rfl
set_option maxHeartbeats 4000000 in
set_option maxRecDepth 100000 in
theorem m_Sys_absent {X : z_X} (hX : z_ok X) {G : z_Gr} {o : Nat} (hG : g_Sys G o) (p0 : Int32) (M : z_Mem) (b : Int32 × z_Mem) (h : F_Sys_absent o p0 M = some b) : z_Ct X yX11_absent cX11_absent 4 (some .int) ({ frames := 3, cells := 0, slots := 0, locals := 65 } : Room) [.ref o, .int p0] G M (fun o9 G9 M9 => G9 = G ∧ (o9, M9) = z_cim b) := by
  refine z_enter hX (by decide) (Nat.le_of_ble_eq_true rfl) h (fun F B hR => ?_)
  show z_K X F 4 0 0 G z_cim b 0 0 0 [(0, .ref o), (1, .int p0)] [] M (F_Sys_absent o p0 M)
  unfold F_Sys_absent
  refine zk_aload_n (pc := 0) B dX11_absent_0 0 rfl rfl ?_
  refine zk_iload_n (pc := 1) B dX11_absent_1 1 rfl rfl ?_
  refine zk_cpr (pc := 2) (k' := 0) (n' := 0) B rfl rfl (Nat.le_of_ble_eq_true rfl) (Nat.le_of_ble_eq_true rfl) (fun b hb => zr_V B hR kV_yX11_existingRide km_11_289 kx_11 (gSys_s hG) [.int p0] rfl rfl (Nat.le_of_ble_eq_true rfl) dX11_absent_2 (m_Sys_existingRide hX hG p0 M b hb) ⟨Nat.le_of_ble_eq_true rfl, Nat.le_of_ble_eq_true rfl⟩ ⟨Nat.le_of_ble_eq_true rfl, Nat.le_of_ble_eq_true rfl⟩) (fun t1 h2 => ?_)
  have ht1 : g_Ride G t1 := fr_Sys_existingRide hG h2
  refine zk_astore_n (loc' := [(2, .ref t1), (0, .ref o), (1, .int p0)]) (pc := 5) B dX11_absent_5 rfl (by decide) rfl ?_
  refine zk_aload_n (pc := 6) B dX11_absent_6 0 rfl rfl ?_
  refine zk_geti (pc := 7) B kx_5 (gRide_s ht1) 0 (by decide) kf_11_293 rfl dX11_absent_7 ?_
  refine zk_iconst (v := 1) (pc := 10) B dX11_absent_10 (by decide) ?_
  refine zk_icmp_ne (tgt := 35) (pc := 11) B dX11_absent_11 (by decide) (fun _ => ?_) (fun _ => ?_)
  · refine zk_bipush (v := (-2)) (pc := 35) B dX11_absent_35 (by decide) ?_
    exact zk_iret (pc := 37) B dX11_absent_37 rfl rfl (Nat.le_of_ble_eq_true rfl) (Nat.le_of_ble_eq_true rfl) rfl
  · refine zk_aload_n (pc := 14) B dX11_absent_14 0 rfl rfl ?_
    refine zk_geti (pc := 15) B kx_5 (gRide_s ht1) 13 (by decide) kf_11_334 rfl dX11_absent_15 ?_
    refine zk_if_ne (tgt := 35) (pc := 18) B dX11_absent_18 (by decide) (fun _ => ?_) (fun _ => ?_)
    · refine zk_bipush (v := (-2)) (pc := 35) B dX11_absent_35 (by decide) ?_
      exact zk_iret (pc := 37) B dX11_absent_37 rfl rfl (Nat.le_of_ble_eq_true rfl) (Nat.le_of_ble_eq_true rfl) rfl
    · refine zk_aload_n (pc := 21) B dX11_absent_21 1 rfl rfl ?_
      refine zk_getr (pc := 22) B kx_11 (gSys_s hG) 6 (by decide) kf_11_36 rfl (gSys_f6 hG) dX11_absent_22 ?_
      refine zk_aload_n (pc := 25) B dX11_absent_25 0 rfl rfl ?_
      refine zk_geti (pc := 26) B kx_5 (gRide_s ht1) 9 (by decide) kf_11_322 rfl dX11_absent_26 ?_
      refine zk_cpi (pc := 29) (k' := 0) (n' := 0) B rfl rfl (Nat.le_of_ble_eq_true rfl) (Nat.le_of_ble_eq_true rfl) (fun b hb => zr_V B hR kV_yX0_hasTaxi km_11_363 kx_0 (gDesk_s (gSys_t6 hG)) [.int (M.1 t1 9)] rfl rfl (Nat.le_of_ble_eq_true rfl) dX11_absent_29 (m_Desk_hasTaxi hX (gSys_t6 hG) (M.1 t1 9) M b hb) ⟨Nat.le_of_ble_eq_true rfl, Nat.le_of_ble_eq_true rfl⟩ ⟨Nat.le_of_ble_eq_true rfl, Nat.le_of_ble_eq_true rfl⟩) (fun x3 _ => ?_)
      refine zk_if_ne (tgt := 38) (pc := 32) B dX11_absent_32 (by decide) (fun _ => ?_) (fun _ => ?_)
      · refine zk_aload_n (pc := 38) B dX11_absent_38 1 rfl rfl ?_
        refine zk_getr (pc := 39) B kx_11 (gSys_s hG) 7 (by decide) kf_11_43 rfl (gSys_f7 hG) dX11_absent_39 ?_
        refine zk_aload_n (pc := 42) B dX11_absent_42 1 rfl rfl ?_
        refine zk_getr (pc := 43) B kx_11 (gSys_s hG) 6 (by decide) kf_11_36 rfl (gSys_f6 hG) dX11_absent_43 ?_
        refine zk_cvm (pc := 46) (k' := 0) (n' := 0) B rfl rfl (Nat.le_of_ble_eq_true rfl) (Nat.le_of_ble_eq_true rfl) (fun b hb => zr_V B hR kV_yX1_note km_11_392 kx_1 (gHistory_s hG) [.ref (o + 5)] rfl rfl (Nat.le_of_ble_eq_true rfl) dX11_absent_46 (m_History_note hX hG (gSys_t6 hG) M b hb) ⟨Nat.le_of_ble_eq_true rfl, Nat.le_of_ble_eq_true rfl⟩ ⟨Nat.le_of_ble_eq_true rfl, Nat.le_of_ble_eq_true rfl⟩) (fun M4 => ?_)
        refine zk_aload_n (pc := 49) B dX11_absent_49 1 rfl rfl ?_
        refine zk_getr (pc := 50) B kx_11 (gSys_s hG) 6 (by decide) kf_11_36 rfl (gSys_f6 hG) dX11_absent_50 ?_
        refine zk_getr (pc := 53) B kx_0 (gDesk_s (gSys_t6 hG)) 6 (by decide) kf_11_366 rfl (gDesk_f6 (gSys_t6 hG)) dX11_absent_53 ?_
        refine zk_aload_n (pc := 56) B dX11_absent_56 0 rfl rfl ?_
        refine zk_geti (pc := 57) B kx_5 (gRide_s ht1) 9 (by decide) kf_11_322 rfl dX11_absent_57 ?_
        refine zk_aald (pc := 60) B (gDesk_t6 (gSys_t6 hG)) (by decide) (by decide) (fun h6 => gDesk_e6 (gSys_t6 hG) _ (z_lt h6)) dX11_absent_60 (fun h6 => zk_lr (fun t5 h6e => ?_))
        have ht5 : g_Taxi G t5 := by rw [h6e]; exact gDesk_k6 (gSys_t6 hG) _ (z_lt h6)
        refine zk_astore_n (loc' := [(3, .ref t5), (2, .ref t1), (0, .ref o), (1, .int p0)]) (pc := 61) B dX11_absent_61 rfl (by decide) rfl ?_
        refine zk_aload_n (pc := 62) B dX11_absent_62 0 rfl rfl ?_
        refine zk_iload_n (pc := 63) B dX11_absent_63 3 rfl rfl ?_
        refine zk_cpi (pc := 64) (k' := 0) (n' := 0) B rfl rfl (Nat.le_of_ble_eq_true rfl) (Nat.le_of_ble_eq_true rfl) (fun b hb => zr_S B hR kS_yX0_dropOf km_11_432 [.int p0] rfl rfl (Nat.le_of_ble_eq_true rfl) dX11_absent_64 (m_Desk_dropOf hX p0 M4 b hb) ⟨Nat.le_of_ble_eq_true rfl, Nat.le_of_ble_eq_true rfl⟩ ⟨Nat.le_of_ble_eq_true rfl, Nat.le_of_ble_eq_true rfl⟩) (fun x7 _ => ?_)
        refine zk_cvm (pc := 67) (k' := 0) (n' := 0) B rfl rfl (Nat.le_of_ble_eq_true rfl) (Nat.le_of_ble_eq_true rfl) (fun b hb => zr_V B hR kV_yX6_removeStop km_11_435 kx_6 (gTaxi_s ht5) [.int x7] rfl rfl (Nat.le_of_ble_eq_true rfl) dX11_absent_67 (m_Taxi_removeStop hX ht5 x7 M4 b hb) ⟨Nat.le_of_ble_eq_true rfl, Nat.le_of_ble_eq_true rfl⟩ ⟨Nat.le_of_ble_eq_true rfl, Nat.le_of_ble_eq_true rfl⟩) (fun M8 => ?_)
        refine zk_aload_n (pc := 70) B dX11_absent_70 1 rfl rfl ?_
        refine zk_iconst (v := 1) (pc := 71) B dX11_absent_71 (by decide) ?_
        refine zk_puti (pc := 72) B kx_5 (gRide_s ht1) 13 (by decide) kf_11_334 rfl rfl rfl rfl dX11_absent_72 ?_
        refine zk_lm (fun M9 => ?_)
        refine zk_aload_n (pc := 75) B dX11_absent_75 0 rfl rfl ?_
        refine zk_geti (pc := 76) B kx_6 (gTaxi_s ht5) 7 (by decide) kf_11_156 rfl dX11_absent_76 ?_
        exact zk_iret (pc := 79) B dX11_absent_79 rfl rfl (Nat.le_of_ble_eq_true rfl) (Nat.le_of_ble_eq_true rfl) rfl
      · refine zk_bipush (v := (-2)) (pc := 35) B dX11_absent_35 (by decide) ?_
        exact zk_iret (pc := 37) B dX11_absent_37 rfl rfl (Nat.le_of_ble_eq_true rfl) (Nat.le_of_ble_eq_true rfl) rfl
set_option maxHeartbeats 4000000 in
set_option maxRecDepth 100000 in
theorem m_Sys_advance {X : z_X} (hX : z_ok X) {G : z_Gr} {o : Nat} (hG : g_Sys G o) (p0 : Int32) (M : z_Mem) (b : Int32 × z_Mem) (h : F_Sys_advance o p0 M = some b) : z_Ct X yX11_advance cX11_advance 2 (some .int) ({ frames := 6, cells := 0, slots := 0, locals := 153 } : Room) [.ref o, .int p0] G M (fun o9 G9 M9 => G9 = G ∧ (o9, M9) = z_cim b) := by
  refine z_enter hX (by decide) (Nat.le_of_ble_eq_true rfl) h (fun F B hR => ?_)
  show z_K X F 2 0 0 G z_cim b 0 0 0 [(0, .ref o), (1, .int p0)] [] M (F_Sys_advance o p0 M)
  unfold F_Sys_advance
  refine zk_iload_n (pc := 0) B dX11_advance_0 1 rfl rfl ?_
  refine zk_iconst (v := 1) (pc := 1) B dX11_advance_1 (by decide) ?_
  refine zk_sipush (v := 1440) (pc := 2) B dX11_advance_2 (by decide) ?_
  refine zk_cup (pc := 5) (k' := 0) (n' := 0) B rfl rfl (Nat.le_of_ble_eq_true rfl) (Nat.le_of_ble_eq_true rfl) (fun b hb => zr_S B hR kS_yX11_checkRange km_11_386 [.int p0, .int 1, .int 1440] rfl rfl (Nat.le_of_ble_eq_true rfl) dX11_advance_5 (m_Sys_checkRange hX p0 1 1440 M b hb) ⟨Nat.le_of_ble_eq_true rfl, Nat.le_of_ble_eq_true rfl⟩ ⟨Nat.le_of_ble_eq_true rfl, Nat.le_of_ble_eq_true rfl⟩) ?_
  refine zk_aload_n (pc := 8) B dX11_advance_8 0 rfl rfl ?_
  refine zk_getr (pc := 9) B kx_11 (gSys_s hG) 6 (by decide) kf_11_36 rfl (gSys_f6 hG) dX11_advance_9 ?_
  refine zk_geti (pc := 12) B kx_0 (gDesk_s (gSys_t6 hG)) 0 (by decide) kf_11_190 rfl dX11_advance_12 ?_
  refine zk_iload_n (pc := 15) B dX11_advance_15 1 rfl rfl ?_
  refine zk_iadd (pc := 16) B dX11_advance_16 ?_
  refine zk_sipush (v := 9999) (pc := 17) B dX11_advance_17 (by decide) ?_
  refine zk_icmp_le (tgt := 26) (pc := 20) B dX11_advance_20 (by decide) (fun _ => ?_) (fun _ => ?_)
  · refine zk_aload_n (pc := 26) B dX11_advance_26 0 rfl rfl ?_
    refine zk_getr (pc := 27) B kx_11 (gSys_s hG) 7 (by decide) kf_11_43 rfl (gSys_f7 hG) dX11_advance_27 ?_
    refine zk_aload_n (pc := 30) B dX11_advance_30 0 rfl rfl ?_
    refine zk_getr (pc := 31) B kx_11 (gSys_s hG) 6 (by decide) kf_11_36 rfl (gSys_f6 hG) dX11_advance_31 ?_
    refine zk_cvm (pc := 34) (k' := 0) (n' := 0) B rfl rfl (Nat.le_of_ble_eq_true rfl) (Nat.le_of_ble_eq_true rfl) (fun b hb => zr_V B hR kV_yX1_note km_11_392 kx_1 (gHistory_s hG) [.ref (o + 5)] rfl rfl (Nat.le_of_ble_eq_true rfl) dX11_advance_34 (m_History_note hX hG (gSys_t6 hG) M b hb) ⟨Nat.le_of_ble_eq_true rfl, Nat.le_of_ble_eq_true rfl⟩ ⟨Nat.le_of_ble_eq_true rfl, Nat.le_of_ble_eq_true rfl⟩) (fun M1 => ?_)
    refine zk_aload_n (pc := 37) B dX11_advance_37 0 rfl rfl ?_
    refine zk_getr (pc := 38) B kx_11 (gSys_s hG) 12 (by decide) kf_11_77 rfl (gSys_f12 hG) dX11_advance_38 ?_
    refine zk_iload_n (pc := 41) B dX11_advance_41 1 rfl rfl ?_
    refine zk_cim (pc := 42) (k' := 0) (n' := 0) B rfl rfl (Nat.le_of_ble_eq_true rfl) (Nat.le_of_ble_eq_true rfl) (fun b hb => zr_V B hR kV_yX10_passMinutes km_11_438 kx_10 (gTraffic_s hG) [.int p0] rfl rfl (Nat.le_of_ble_eq_true rfl) dX11_advance_42 (m_Traffic_passMinutes hX hG p0 M1 b hb) ⟨Nat.le_of_ble_eq_true rfl, Nat.le_of_ble_eq_true rfl⟩ ⟨Nat.le_of_ble_eq_true rfl, Nat.le_of_ble_eq_true rfl⟩) (fun x3 M2 => ?_)
    exact zk_iret (pc := 45) B dX11_advance_45 rfl rfl (Nat.le_of_ble_eq_true rfl) (Nat.le_of_ble_eq_true rfl) rfl
  · refine zk_bipush (v := (-2)) (pc := 23) B dX11_advance_23 (by decide) ?_
    exact zk_iret (pc := 25) B dX11_advance_25 rfl rfl (Nat.le_of_ble_eq_true rfl) (Nat.le_of_ble_eq_true rfl) rfl
set_option maxHeartbeats 4000000 in
set_option maxRecDepth 100000 in
theorem m_Sys_tip {X : z_X} (hX : z_ok X) {G : z_Gr} {o : Nat} (hG : g_Sys G o) (p0 : Int32) (p1 : Int32) (M : z_Mem) (b : Int32 × z_Mem) (h : F_Sys_tip o p0 p1 M = some b) : z_Ct X yX11_tip cX11_tip 4 (some .int) ({ frames := 3, cells := 0, slots := 0, locals := 65 } : Room) [.ref o, .int p0, .int p1] G M (fun o9 G9 M9 => G9 = G ∧ (o9, M9) = z_cim b) := by
  refine z_enter hX (by decide) (Nat.le_of_ble_eq_true rfl) h (fun F B hR => ?_)
  show z_K X F 4 0 0 G z_cim b 0 0 0 [(0, .ref o), (1, .int p0), (2, .int p1)] [] M (F_Sys_tip o p0 p1 M)
  unfold F_Sys_tip
  refine zk_aload_n (pc := 0) B dX11_tip_0 0 rfl rfl ?_
  refine zk_iload_n (pc := 1) B dX11_tip_1 1 rfl rfl ?_
  refine zk_cpr (pc := 2) (k' := 0) (n' := 0) B rfl rfl (Nat.le_of_ble_eq_true rfl) (Nat.le_of_ble_eq_true rfl) (fun b hb => zr_V B hR kV_yX11_existingTaxi km_11_152 kx_11 (gSys_s hG) [.int p0] rfl rfl (Nat.le_of_ble_eq_true rfl) dX11_tip_2 (m_Sys_existingTaxi hX hG p0 M b hb) ⟨Nat.le_of_ble_eq_true rfl, Nat.le_of_ble_eq_true rfl⟩ ⟨Nat.le_of_ble_eq_true rfl, Nat.le_of_ble_eq_true rfl⟩) (fun t1 h2 => ?_)
  have ht1 : g_Taxi G t1 := fr_Sys_existingTaxi hG h2
  refine zk_astore_n (loc' := [(3, .ref t1), (0, .ref o), (1, .int p0), (2, .int p1)]) (pc := 5) B dX11_tip_5 rfl (by decide) rfl ?_
  refine zk_iload_n (pc := 6) B dX11_tip_6 3 rfl rfl ?_
  refine zk_iconst (v := 1) (pc := 7) B dX11_tip_7 (by decide) ?_
  refine zk_ldcw (pc := 8) B kc_11_441 dX11_tip_8 ?_
  refine zk_cup (pc := 11) (k' := 0) (n' := 0) B rfl rfl (Nat.le_of_ble_eq_true rfl) (Nat.le_of_ble_eq_true rfl) (fun b hb => zr_S B hR kS_yX11_checkRange km_11_386 [.int p1, .int 1, .int 2000000000] rfl rfl (Nat.le_of_ble_eq_true rfl) dX11_tip_11 (m_Sys_checkRange hX p1 1 2000000000 M b hb) ⟨Nat.le_of_ble_eq_true rfl, Nat.le_of_ble_eq_true rfl⟩ ⟨Nat.le_of_ble_eq_true rfl, Nat.le_of_ble_eq_true rfl⟩) ?_
  refine zk_aload_n (pc := 14) B dX11_tip_14 0 rfl rfl ?_
  refine zk_geti (pc := 15) B kx_6 (gTaxi_s ht1) 11 (by decide) kf_11_252 rfl dX11_tip_15 ?_
  refine zk_ldcw (pc := 18) B kc_11_441 dX11_tip_18 ?_
  refine zk_iload_n (pc := 21) B dX11_tip_21 3 rfl rfl ?_
  refine zk_isub (pc := 22) B dX11_tip_22 ?_
  refine zk_icmp_le (tgt := 29) (pc := 23) B dX11_tip_23 (by decide) (fun _ => ?_) (fun _ => ?_)
  · refine zk_aload_n (pc := 29) B dX11_tip_29 1 rfl rfl ?_
    refine zk_getr (pc := 30) B kx_11 (gSys_s hG) 7 (by decide) kf_11_43 rfl (gSys_f7 hG) dX11_tip_30 ?_
    refine zk_aload_n (pc := 33) B dX11_tip_33 1 rfl rfl ?_
    refine zk_getr (pc := 34) B kx_11 (gSys_s hG) 6 (by decide) kf_11_36 rfl (gSys_f6 hG) dX11_tip_34 ?_
    refine zk_cvm (pc := 37) (k' := 0) (n' := 0) B rfl rfl (Nat.le_of_ble_eq_true rfl) (Nat.le_of_ble_eq_true rfl) (fun b hb => zr_V B hR kV_yX1_note km_11_392 kx_1 (gHistory_s hG) [.ref (o + 5)] rfl rfl (Nat.le_of_ble_eq_true rfl) dX11_tip_37 (m_History_note hX hG (gSys_t6 hG) M b hb) ⟨Nat.le_of_ble_eq_true rfl, Nat.le_of_ble_eq_true rfl⟩ ⟨Nat.le_of_ble_eq_true rfl, Nat.le_of_ble_eq_true rfl⟩) (fun M3 => ?_)
    refine zk_aload_n (pc := 40) B dX11_tip_40 0 rfl rfl ?_
    refine zk_dup (pc := 41) B dX11_tip_41 rfl ?_
    refine zk_geti (pc := 42) B kx_6 (gTaxi_s ht1) 11 (by decide) kf_11_252 rfl dX11_tip_42 ?_
    refine zk_iload_n (pc := 45) B dX11_tip_45 3 rfl rfl ?_
    refine zk_iadd (pc := 46) B dX11_tip_46 ?_
    refine zk_puti (pc := 47) B kx_6 (gTaxi_s ht1) 11 (by decide) kf_11_252 rfl rfl rfl rfl dX11_tip_47 ?_
    refine zk_lm (fun M4 => ?_)
    refine zk_aload_n (pc := 50) B dX11_tip_50 0 rfl rfl ?_
    refine zk_dup (pc := 51) B dX11_tip_51 rfl ?_
    refine zk_geti (pc := 52) B kx_6 (gTaxi_s ht1) 12 (by decide) kf_11_255 rfl dX11_tip_52 ?_
    refine zk_iload_n (pc := 55) B dX11_tip_55 3 rfl rfl ?_
    refine zk_iadd (pc := 56) B dX11_tip_56 ?_
    refine zk_puti (pc := 57) B kx_6 (gTaxi_s ht1) 12 (by decide) kf_11_255 rfl rfl rfl rfl dX11_tip_57 ?_
    refine zk_lm (fun M5 => ?_)
    refine zk_aload_n (pc := 60) B dX11_tip_60 0 rfl rfl ?_
    refine zk_geti (pc := 61) B kx_6 (gTaxi_s ht1) 11 (by decide) kf_11_252 rfl dX11_tip_61 ?_
    exact zk_iret (pc := 64) B dX11_tip_64 rfl rfl (Nat.le_of_ble_eq_true rfl) (Nat.le_of_ble_eq_true rfl) rfl
  · refine zk_bipush (v := (-5)) (pc := 26) B dX11_tip_26 (by decide) ?_
    exact zk_iret (pc := 28) B dX11_tip_28 rfl rfl (Nat.le_of_ble_eq_true rfl) (Nat.le_of_ble_eq_true rfl) rfl
