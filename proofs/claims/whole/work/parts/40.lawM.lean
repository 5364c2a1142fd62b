/-! ===== the law's methods with handlers (by program) ===== -/
theorem kW_load : z_mW yL_load cL_load 4 (some .int) [(0, 9, 12, 13)] 3 := ⟨z_in 741 (by decide +kernel) rfl, z_in 112 (by decide +kernel) rfl, z_in 742 (by decide +kernel) rfl, by decide +kernel⟩
def F_LW_load (o oa : Nat) (p0 : Int32) (M : z_Mem) : Option (Int32 × z_Mem) :=
  zw z_xim (F_Sys_load o p0 M) (fun r M1 => if z_inb (0 : Int32) 1 then some ((0 : Int32), z_wL M1 oa (0 : Int32).toNatClampNeg r.toInt64) else none) (fun e M1 => if e = 1 then none else some (1, M1))
set_option maxRecDepth 100000 in
theorem w_load {X : z_X} (hX : z_ok X) (hN : z_okN X) {G : z_Gr} {o oa : Nat} (hG : g_Sys G o) (ha : G.1 oa = some (.inr (2, 1))) (p0 : Int32) (M : z_Mem) (b : Int32 × z_Mem) (h : F_LW_load o oa p0 M = some b) : z_CtW X yL_load cL_load 4 (some .int) [(0, 9, 12, 13)] ({ frames := 13, cells := 1, slots := 6, locals := 317 } : Room) [.ref o, .int p0, .ref oa] G M (fun o9 G9 M9 => G9 = G ∧ (o9, M9) = z_cim b) := by
  refine z_enterW hX (by decide) rfl (Nat.le_of_ble_eq_true rfl) h (fun F B hT hR => ?_)
  show z_K X F 4 1 6 G z_cim b 0 0 0 [(0, .ref o), (1, .int p0), (2, .ref oa)] [] M (F_LW_load o oa p0 M)
  unfold F_LW_load
  refine zk_aload_n (pc := 0) B dL_load_0 2 rfl rfl ?_
  refine zk_iconst (v := 0) (pc := 1) B dL_load_1 (by decide) ?_
  refine zk_aload_n (pc := 2) B dL_load_2 0 rfl rfl ?_
  refine zk_iload_n (pc := 3) B dL_load_3 1 rfl rfl ?_
  refine zk_ct2 (pc := 4) (k' := 1) (n' := 6) B hT (by decide) rfl rfl (fun b hb => zr_V B hR kV_yX11_load km_L_7 kx_11 (gSys_s hG) [.int p0] rfl rfl (Nat.le_of_ble_eq_true rfl) dL_load_4 (m_Sys_load hX hG p0 M b hb) ⟨(Nat.le_of_ble_eq_true rfl), (Nat.le_of_ble_eq_true rfl)⟩ ⟨(Nat.le_of_ble_eq_true rfl), (Nat.le_of_ble_eq_true rfl)⟩) (fun r M1 => ?_) (fun M1 q => ?_)
  · refine zk_i2l (pc := 7) B dL_load_7 ?_
    refine zk_last (pc := 8) B ha dL_load_8 ?_
    refine zk_goto (tgt := 15) (pc := 9) B dL_load_9 (by decide) ?_
    refine zk_iconst (v := 0) (pc := 15) B dL_load_15 (by decide) ?_
    exact zk_iret (pc := 16) B dL_load_16 rfl rfl (Nat.le_of_ble_eq_true rfl) (Nat.le_of_ble_eq_true rfl) rfl
  · refine zk_astore_n (pc := 12) B dL_load_12 rfl (by decide) rfl ?_
    refine zk_iconst (v := 1) (pc := 13) B dL_load_13 (by decide) ?_
    exact zk_iret (pc := 14) B dL_load_14 rfl rfl (Nat.le_of_ble_eq_true rfl) (Nat.le_of_ble_eq_true rfl) rfl
theorem kW_size : z_mW yL_size cL_size 4 (some .int) [(0, 9, 12, 18)] 3 := ⟨z_in 992 (by decide +kernel) rfl, z_in 112 (by decide +kernel) rfl, z_in 993 (by decide +kernel) rfl, by decide +kernel⟩
def F_LW_size (o oa : Nat) (p0 : Int32) (M : z_Mem) : Option (Int32 × z_Mem) :=
  zw (z_xi M) (F_Sys_size o p0 M) (fun r M1 => if z_inb (0 : Int32) 1 then some ((0 : Int32), z_wL M1 oa (0 : Int32).toNatClampNeg r.toInt64) else none) (fun e M1 => if e = 1 then some (1, M1) else none)
set_option maxRecDepth 100000 in
theorem w_size {X : z_X} (hX : z_ok X) (hN : z_okN X) {G : z_Gr} {o oa : Nat} (hG : g_Sys G o) (ha : G.1 oa = some (.inr (2, 1))) (p0 : Int32) (M : z_Mem) (b : Int32 × z_Mem) (h : F_LW_size o oa p0 M = some b) : z_CtW X yL_size cL_size 4 (some .int) [(0, 9, 12, 18)] ({ frames := 7, cells := 1, slots := 6, locals := 121 } : Room) [.ref o, .int p0, .ref oa] G M (fun o9 G9 M9 => G9 = G ∧ (o9, M9) = z_cim b) := by
  refine z_enterW hX (by decide) rfl (Nat.le_of_ble_eq_true rfl) h (fun F B hT hR => ?_)
  show z_K X F 4 1 6 G z_cim b 0 0 0 [(0, .ref o), (1, .int p0), (2, .ref oa)] [] M (F_LW_size o oa p0 M)
  unfold F_LW_size
  refine zk_aload_n (pc := 0) B dL_size_0 2 rfl rfl ?_
  refine zk_iconst (v := 0) (pc := 1) B dL_size_1 (by decide) ?_
  refine zk_aload_n (pc := 2) B dL_size_2 0 rfl rfl ?_
  refine zk_iload_n (pc := 3) B dL_size_3 1 rfl rfl ?_
  refine zk_ct1 (pc := 4) (k' := 1) (n' := 6) B hT (by decide) rfl rfl (fun b hb => zr_V B hR kV_yX11_size km_L_15 kx_11 (gSys_s hG) [.int p0] rfl rfl (Nat.le_of_ble_eq_true rfl) dL_size_4 (m_Sys_size hX hG p0 M b hb) ⟨(Nat.le_of_ble_eq_true rfl), (Nat.le_of_ble_eq_true rfl)⟩ ⟨(Nat.le_of_ble_eq_true rfl), (Nat.le_of_ble_eq_true rfl)⟩) (fun r M1 => ?_) (fun M1 q => ?_)
  · refine zk_i2l (pc := 7) B dL_size_7 ?_
    refine zk_last (pc := 8) B ha dL_size_8 ?_
    refine zk_goto (tgt := 15) (pc := 9) B dL_size_9 (by decide) ?_
    refine zk_iconst (v := 0) (pc := 15) B dL_size_15 (by decide) ?_
    exact zk_iret (pc := 16) B dL_size_16 rfl rfl (Nat.le_of_ble_eq_true rfl) (Nat.le_of_ble_eq_true rfl) rfl
  · refine zk_astore_n (pc := 12) B dL_size_12 rfl (by decide) rfl ?_
    refine zk_iconst (v := 1) (pc := 13) B dL_size_13 (by decide) ?_
    exact zk_iret (pc := 14) B dL_size_14 rfl rfl (Nat.le_of_ble_eq_true rfl) (Nat.le_of_ble_eq_true rfl) rfl
theorem kW_rule : z_mW yL_rule cL_rule 4 (some .int) [(0, 9, 12, 18)] 3 := ⟨z_in 1020 (by decide +kernel) rfl, z_in 112 (by decide +kernel) rfl, z_in 1021 (by decide +kernel) rfl, by decide +kernel⟩
def F_LW_rule (o oa : Nat) (p0 : Int32) (M : z_Mem) : Option (Int32 × z_Mem) :=
  zw (z_xi M) (F_Sys_rule o p0 M) (fun r M1 => if z_inb (0 : Int32) 1 then some ((0 : Int32), z_wL M1 oa (0 : Int32).toNatClampNeg r.toInt64) else none) (fun e M1 => if e = 1 then some (1, M1) else none)
set_option maxRecDepth 100000 in
theorem w_rule {X : z_X} (hX : z_ok X) (hN : z_okN X) {G : z_Gr} {o oa : Nat} (hG : g_Sys G o) (ha : G.1 oa = some (.inr (2, 1))) (p0 : Int32) (M : z_Mem) (b : Int32 × z_Mem) (h : F_LW_rule o oa p0 M = some b) : z_CtW X yL_rule cL_rule 4 (some .int) [(0, 9, 12, 18)] ({ frames := 8, cells := 1, slots := 6, locals := 141 } : Room) [.ref o, .int p0, .ref oa] G M (fun o9 G9 M9 => G9 = G ∧ (o9, M9) = z_cim b) := by
  refine z_enterW hX (by decide) rfl (Nat.le_of_ble_eq_true rfl) h (fun F B hT hR => ?_)
  show z_K X F 4 1 6 G z_cim b 0 0 0 [(0, .ref o), (1, .int p0), (2, .ref oa)] [] M (F_LW_rule o oa p0 M)
  unfold F_LW_rule
  refine zk_aload_n (pc := 0) B dL_rule_0 2 rfl rfl ?_
  refine zk_iconst (v := 0) (pc := 1) B dL_rule_1 (by decide) ?_
  refine zk_aload_n (pc := 2) B dL_rule_2 0 rfl rfl ?_
  refine zk_iload_n (pc := 3) B dL_rule_3 1 rfl rfl ?_
  refine zk_ct1 (pc := 4) (k' := 1) (n' := 6) B hT (by decide) rfl rfl (fun b hb => zr_V B hR kV_yX11_rule km_L_20 kx_11 (gSys_s hG) [.int p0] rfl rfl (Nat.le_of_ble_eq_true rfl) dL_rule_4 (m_Sys_rule hX hG p0 M b hb) ⟨(Nat.le_of_ble_eq_true rfl), (Nat.le_of_ble_eq_true rfl)⟩ ⟨(Nat.le_of_ble_eq_true rfl), (Nat.le_of_ble_eq_true rfl)⟩) (fun r M1 => ?_) (fun M1 q => ?_)
  · refine zk_i2l (pc := 7) B dL_rule_7 ?_
    refine zk_last (pc := 8) B ha dL_rule_8 ?_
    refine zk_goto (tgt := 15) (pc := 9) B dL_rule_9 (by decide) ?_
    refine zk_iconst (v := 0) (pc := 15) B dL_rule_15 (by decide) ?_
    exact zk_iret (pc := 16) B dL_rule_16 rfl rfl (Nat.le_of_ble_eq_true rfl) (Nat.le_of_ble_eq_true rfl) rfl
  · refine zk_astore_n (pc := 12) B dL_rule_12 rfl (by decide) rfl ?_
    refine zk_iconst (v := 1) (pc := 13) B dL_rule_13 (by decide) ?_
    exact zk_iret (pc := 14) B dL_rule_14 rfl rfl (Nat.le_of_ble_eq_true rfl) (Nat.le_of_ble_eq_true rfl) rfl
theorem kW_minutes : z_mW yL_minutes cL_minutes 5 (some .int) [(0, 10, 13, 18)] 4 := ⟨z_in 1035 (by decide +kernel) rfl, z_in 112 (by decide +kernel) rfl, z_in 1036 (by decide +kernel) rfl, by decide +kernel⟩
def F_LW_minutes (o oa : Nat) (p0 : Int32) (p1 : Int32) (M : z_Mem) : Option (Int32 × z_Mem) :=
  zw (z_xi M) (F_Sys_minutes o p0 p1 M) (fun r M1 => if z_inb (0 : Int32) 1 then some ((0 : Int32), z_wL M1 oa (0 : Int32).toNatClampNeg r.toInt64) else none) (fun e M1 => if e = 1 then some (1, M1) else none)
set_option maxRecDepth 100000 in
theorem w_minutes {X : z_X} (hX : z_ok X) (hN : z_okN X) {G : z_Gr} {o oa : Nat} (hG : g_Sys G o) (ha : G.1 oa = some (.inr (2, 1))) (p0 : Int32) (p1 : Int32) (M : z_Mem) (b : Int32 × z_Mem) (h : F_LW_minutes o oa p0 p1 M = some b) : z_CtW X yL_minutes cL_minutes 5 (some .int) [(0, 10, 13, 18)] ({ frames := 8, cells := 2, slots := 12, locals := 143 } : Room) [.ref o, .int p0, .int p1, .ref oa] G M (fun o9 G9 M9 => G9 = G ∧ (o9, M9) = z_cim b) := by
  refine z_enterW hX (by decide) rfl (Nat.le_of_ble_eq_true rfl) h (fun F B hT hR => ?_)
  show z_K X F 5 2 12 G z_cim b 0 0 0 [(0, .ref o), (1, .int p0), (2, .int p1), (3, .ref oa)] [] M (F_LW_minutes o oa p0 p1 M)
  unfold F_LW_minutes
  refine zk_aload_n (pc := 0) B dL_minutes_0 3 rfl rfl ?_
  refine zk_iconst (v := 0) (pc := 1) B dL_minutes_1 (by decide) ?_
  refine zk_aload_n (pc := 2) B dL_minutes_2 0 rfl rfl ?_
  refine zk_iload_n (pc := 3) B dL_minutes_3 1 rfl rfl ?_
  refine zk_iload_n (pc := 4) B dL_minutes_4 2 rfl rfl ?_
  refine zk_ct1 (pc := 5) (k' := 2) (n' := 12) B hT (by decide) rfl rfl (fun b hb => zr_V B hR kV_yX11_minutes km_L_23 kx_11 (gSys_s hG) [.int p0, .int p1] rfl rfl (Nat.le_of_ble_eq_true rfl) dL_minutes_5 (m_Sys_minutes hX hG p0 p1 M b hb) ⟨(Nat.le_of_ble_eq_true rfl), (Nat.le_of_ble_eq_true rfl)⟩ ⟨(Nat.le_of_ble_eq_true rfl), (Nat.le_of_ble_eq_true rfl)⟩) (fun r M1 => ?_) (fun M1 q => ?_)
  · refine zk_i2l (pc := 8) B dL_minutes_8 ?_
    refine zk_last (pc := 9) B ha dL_minutes_9 ?_
    refine zk_goto (tgt := 17) (pc := 10) B dL_minutes_10 (by decide) ?_
    refine zk_iconst (v := 0) (pc := 17) B dL_minutes_17 (by decide) ?_
    exact zk_iret (pc := 18) B dL_minutes_18 rfl rfl (Nat.le_of_ble_eq_true rfl) (Nat.le_of_ble_eq_true rfl) rfl
  · refine zk_astore (pc := 13) B dL_minutes_13 (by decide) rfl ?_
    refine zk_iconst (v := 1) (pc := 15) B dL_minutes_15 (by decide) ?_
    exact zk_iret (pc := 16) B dL_minutes_16 rfl rfl (Nat.le_of_ble_eq_true rfl) (Nat.le_of_ble_eq_true rfl) rfl
theorem kW_taxi : z_mW yL_taxi cL_taxi 5 (some .int) [(0, 10, 13, 18)] 4 := ⟨z_in 1048 (by decide +kernel) rfl, z_in 112 (by decide +kernel) rfl, z_in 1049 (by decide +kernel) rfl, by decide +kernel⟩
def F_LW_taxi (o oa : Nat) (p0 : Int32) (p1 : Int32) (M : z_Mem) : Option (Int32 × z_Mem) :=
  zw (z_xi M) (F_Sys_taxi o p0 p1 M) (fun r M1 => if z_inb (0 : Int32) 1 then some ((0 : Int32), z_wL M1 oa (0 : Int32).toNatClampNeg r.toInt64) else none) (fun e M1 => if e = 1 then some (1, M1) else none)
set_option maxRecDepth 100000 in
theorem w_taxi {X : z_X} (hX : z_ok X) (hN : z_okN X) {G : z_Gr} {o oa : Nat} (hG : g_Sys G o) (ha : G.1 oa = some (.inr (2, 1))) (p0 : Int32) (p1 : Int32) (M : z_Mem) (b : Int32 × z_Mem) (h : F_LW_taxi o oa p0 p1 M = some b) : z_CtW X yL_taxi cL_taxi 5 (some .int) [(0, 10, 13, 18)] ({ frames := 8, cells := 2, slots := 12, locals := 144 } : Room) [.ref o, .int p0, .int p1, .ref oa] G M (fun o9 G9 M9 => G9 = G ∧ (o9, M9) = z_cim b) := by
  refine z_enterW hX (by decide) rfl (Nat.le_of_ble_eq_true rfl) h (fun F B hT hR => ?_)
  show z_K X F 5 2 12 G z_cim b 0 0 0 [(0, .ref o), (1, .int p0), (2, .int p1), (3, .ref oa)] [] M (F_LW_taxi o oa p0 p1 M)
  unfold F_LW_taxi
  refine zk_aload_n (pc := 0) B dL_taxi_0 3 rfl rfl ?_
  refine zk_iconst (v := 0) (pc := 1) B dL_taxi_1 (by decide) ?_
  refine zk_aload_n (pc := 2) B dL_taxi_2 0 rfl rfl ?_
  refine zk_iload_n (pc := 3) B dL_taxi_3 1 rfl rfl ?_
  refine zk_iload_n (pc := 4) B dL_taxi_4 2 rfl rfl ?_
  refine zk_ct1 (pc := 5) (k' := 2) (n' := 12) B hT (by decide) rfl rfl (fun b hb => zr_V B hR kV_yX11_taxi km_L_27 kx_11 (gSys_s hG) [.int p0, .int p1] rfl rfl (Nat.le_of_ble_eq_true rfl) dL_taxi_5 (m_Sys_taxi hX hG p0 p1 M b hb) ⟨(Nat.le_of_ble_eq_true rfl), (Nat.le_of_ble_eq_true rfl)⟩ ⟨(Nat.le_of_ble_eq_true rfl), (Nat.le_of_ble_eq_true rfl)⟩) (fun r M1 => ?_) (fun M1 q => ?_)
  · refine zk_i2l (pc := 8) B dL_taxi_8 ?_
    refine zk_last (pc := 9) B ha dL_taxi_9 ?_
    refine zk_goto (tgt := 17) (pc := 10) B dL_taxi_10 (by decide) ?_
    refine zk_iconst (v := 0) (pc := 17) B dL_taxi_17 (by decide) ?_
    exact zk_iret (pc := 18) B dL_taxi_18 rfl rfl (Nat.le_of_ble_eq_true rfl) (Nat.le_of_ble_eq_true rfl) rfl
  · refine zk_astore (pc := 13) B dL_taxi_13 (by decide) rfl ?_
    refine zk_iconst (v := 1) (pc := 15) B dL_taxi_15 (by decide) ?_
    exact zk_iret (pc := 16) B dL_taxi_16 rfl rfl (Nat.le_of_ble_eq_true rfl) (Nat.le_of_ble_eq_true rfl) rfl
theorem kW_account : z_mW yL_account cL_account 5 (some .int) [(0, 10, 13, 18)] 4 := ⟨z_in 1077 (by decide +kernel) rfl, z_in 112 (by decide +kernel) rfl, z_in 1078 (by decide +kernel) rfl, by decide +kernel⟩
def F_LW_account (o oa : Nat) (p0 : Int32) (p1 : Int32) (M : z_Mem) : Option (Int32 × z_Mem) :=
  zw (z_xi M) (F_Sys_account o p0 p1 M) (fun r M1 => if z_inb (0 : Int32) 1 then some ((0 : Int32), z_wL M1 oa (0 : Int32).toNatClampNeg r.toInt64) else none) (fun e M1 => if e = 1 then some (1, M1) else none)
set_option maxRecDepth 100000 in
theorem w_account {X : z_X} (hX : z_ok X) (hN : z_okN X) {G : z_Gr} {o oa : Nat} (hG : g_Sys G o) (ha : G.1 oa = some (.inr (2, 1))) (p0 : Int32) (p1 : Int32) (M : z_Mem) (b : Int32 × z_Mem) (h : F_LW_account o oa p0 p1 M = some b) : z_CtW X yL_account cL_account 5 (some .int) [(0, 10, 13, 18)] ({ frames := 8, cells := 2, slots := 12, locals := 144 } : Room) [.ref o, .int p0, .int p1, .ref oa] G M (fun o9 G9 M9 => G9 = G ∧ (o9, M9) = z_cim b) := by
  refine z_enterW hX (by decide) rfl (Nat.le_of_ble_eq_true rfl) h (fun F B hT hR => ?_)
  show z_K X F 5 2 12 G z_cim b 0 0 0 [(0, .ref o), (1, .int p0), (2, .int p1), (3, .ref oa)] [] M (F_LW_account o oa p0 p1 M)
  unfold F_LW_account
  refine zk_aload_n (pc := 0) B dL_account_0 3 rfl rfl ?_
  refine zk_iconst (v := 0) (pc := 1) B dL_account_1 (by decide) ?_
  refine zk_aload_n (pc := 2) B dL_account_2 0 rfl rfl ?_
  refine zk_iload_n (pc := 3) B dL_account_3 1 rfl rfl ?_
  refine zk_iload_n (pc := 4) B dL_account_4 2 rfl rfl ?_
  refine zk_ct1 (pc := 5) (k' := 2) (n' := 12) B hT (by decide) rfl rfl (fun b hb => zr_V B hR kV_yX11_account km_L_30 kx_11 (gSys_s hG) [.int p0, .int p1] rfl rfl (Nat.le_of_ble_eq_true rfl) dL_account_5 (m_Sys_account hX hG p0 p1 M b hb) ⟨(Nat.le_of_ble_eq_true rfl), (Nat.le_of_ble_eq_true rfl)⟩ ⟨(Nat.le_of_ble_eq_true rfl), (Nat.le_of_ble_eq_true rfl)⟩) (fun r M1 => ?_) (fun M1 q => ?_)
  · refine zk_i2l (pc := 8) B dL_account_8 ?_
    refine zk_last (pc := 9) B ha dL_account_9 ?_
    refine zk_goto (tgt := 17) (pc := 10) B dL_account_10 (by decide) ?_
    refine zk_iconst (v := 0) (pc := 17) B dL_account_17 (by decide) ?_
    exact zk_iret (pc := 18) B dL_account_18 rfl rfl (Nat.le_of_ble_eq_true rfl) (Nat.le_of_ble_eq_true rfl) rfl
  · refine zk_astore (pc := 13) B dL_account_13 (by decide) rfl ?_
    refine zk_iconst (v := 1) (pc := 15) B dL_account_15 (by decide) ?_
    exact zk_iret (pc := 16) B dL_account_16 rfl rfl (Nat.le_of_ble_eq_true rfl) (Nat.le_of_ble_eq_true rfl) rfl
theorem kW_stop : z_mW yL_stop cL_stop 6 (some .int) [(0, 12, 15, 18)] 5 := ⟨z_in 1085 (by decide +kernel) rfl, z_in 112 (by decide +kernel) rfl, z_in 1086 (by decide +kernel) rfl, by decide +kernel⟩
def F_LW_stop (o oa : Nat) (p0 : Int32) (p1 : Int32) (p2 : Int32) (M : z_Mem) : Option (Int32 × z_Mem) :=
  zw z_xim (F_Sys_stop o p0 p1 p2 M) (fun r M1 => if z_inb (0 : Int32) 1 then some ((0 : Int32), z_wL M1 oa (0 : Int32).toNatClampNeg r.toInt64) else none) (fun e M1 => if e = 1 then some (1, M1) else none)
set_option maxRecDepth 100000 in
theorem w_stop {X : z_X} (hX : z_ok X) (hN : z_okN X) {G : z_Gr} {o oa : Nat} (hG : g_Sys G o) (ha : G.1 oa = some (.inr (2, 1))) (p0 : Int32) (p1 : Int32) (p2 : Int32) (M : z_Mem) (b : Int32 × z_Mem) (h : F_LW_stop o oa p0 p1 p2 M = some b) : z_CtW X yL_stop cL_stop 6 (some .int) [(0, 12, 15, 18)] ({ frames := 8, cells := 2, slots := 12, locals := 146 } : Room) [.ref o, .int p0, .int p1, .int p2, .ref oa] G M (fun o9 G9 M9 => G9 = G ∧ (o9, M9) = z_cim b) := by
  refine z_enterW hX (by decide) rfl (Nat.le_of_ble_eq_true rfl) h (fun F B hT hR => ?_)
  show z_K X F 6 2 12 G z_cim b 0 0 0 [(0, .ref o), (1, .int p0), (2, .int p1), (3, .int p2), (4, .ref oa)] [] M (F_LW_stop o oa p0 p1 p2 M)
  unfold F_LW_stop
  refine zk_aload (pc := 0) B dL_stop_0 4 rfl ?_
  refine zk_iconst (v := 0) (pc := 2) B dL_stop_2 (by decide) ?_
  refine zk_aload_n (pc := 3) B dL_stop_3 0 rfl rfl ?_
  refine zk_iload_n (pc := 4) B dL_stop_4 1 rfl rfl ?_
  refine zk_iload_n (pc := 5) B dL_stop_5 2 rfl rfl ?_
  refine zk_iload_n (pc := 6) B dL_stop_6 3 rfl rfl ?_
  refine zk_ct1 (pc := 7) (k' := 2) (n' := 12) B hT (by decide) rfl rfl (fun b hb => zr_V B hR kV_yX11_stop km_L_33 kx_11 (gSys_s hG) [.int p0, .int p1, .int p2] rfl rfl (Nat.le_of_ble_eq_true rfl) dL_stop_7 (m_Sys_stop hX hG p0 p1 p2 M b hb) ⟨(Nat.le_of_ble_eq_true rfl), (Nat.le_of_ble_eq_true rfl)⟩ ⟨(Nat.le_of_ble_eq_true rfl), (Nat.le_of_ble_eq_true rfl)⟩) (fun r M1 => ?_) (fun M1 q => ?_)
  · refine zk_i2l (pc := 10) B dL_stop_10 ?_
    refine zk_last (pc := 11) B ha dL_stop_11 ?_
    refine zk_goto (tgt := 19) (pc := 12) B dL_stop_12 (by decide) ?_
    refine zk_iconst (v := 0) (pc := 19) B dL_stop_19 (by decide) ?_
    exact zk_iret (pc := 20) B dL_stop_20 rfl rfl (Nat.le_of_ble_eq_true rfl) (Nat.le_of_ble_eq_true rfl) rfl
  · refine zk_astore (pc := 15) B dL_stop_15 (by decide) rfl ?_
    refine zk_iconst (v := 1) (pc := 17) B dL_stop_17 (by decide) ?_
    exact zk_iret (pc := 18) B dL_stop_18 rfl rfl (Nat.le_of_ble_eq_true rfl) (Nat.le_of_ble_eq_true rfl) rfl
theorem kW_ride : z_mW yL_ride cL_ride 5 (some .int) [(0, 10, 13, 18)] 4 := ⟨z_in 1156 (by decide +kernel) rfl, z_in 112 (by decide +kernel) rfl, z_in 1157 (by decide +kernel) rfl, by decide +kernel⟩
def F_LW_ride (o oa : Nat) (p0 : Int32) (p1 : Int32) (M : z_Mem) : Option (Int32 × z_Mem) :=
  zw (z_xi M) (F_Sys_ride o p0 p1 M) (fun r M1 => if z_inb (0 : Int32) 1 then some ((0 : Int32), z_wL M1 oa (0 : Int32).toNatClampNeg r.toInt64) else none) (fun e M1 => if e = 1 then some (1, M1) else none)
set_option maxRecDepth 100000 in
theorem w_ride {X : z_X} (hX : z_ok X) (hN : z_okN X) {G : z_Gr} {o oa : Nat} (hG : g_Sys G o) (ha : G.1 oa = some (.inr (2, 1))) (p0 : Int32) (p1 : Int32) (M : z_Mem) (b : Int32 × z_Mem) (h : F_LW_ride o oa p0 p1 M = some b) : z_CtW X yL_ride cL_ride 5 (some .int) [(0, 10, 13, 18)] ({ frames := 8, cells := 2, slots := 12, locals := 144 } : Room) [.ref o, .int p0, .int p1, .ref oa] G M (fun o9 G9 M9 => G9 = G ∧ (o9, M9) = z_cim b) := by
  refine z_enterW hX (by decide) rfl (Nat.le_of_ble_eq_true rfl) h (fun F B hT hR => ?_)
  show z_K X F 5 2 12 G z_cim b 0 0 0 [(0, .ref o), (1, .int p0), (2, .int p1), (3, .ref oa)] [] M (F_LW_ride o oa p0 p1 M)
  unfold F_LW_ride
  refine zk_aload_n (pc := 0) B dL_ride_0 3 rfl rfl ?_
  refine zk_iconst (v := 0) (pc := 1) B dL_ride_1 (by decide) ?_
  refine zk_aload_n (pc := 2) B dL_ride_2 0 rfl rfl ?_
  refine zk_iload_n (pc := 3) B dL_ride_3 1 rfl rfl ?_
  refine zk_iload_n (pc := 4) B dL_ride_4 2 rfl rfl ?_
  refine zk_ct1 (pc := 5) (k' := 2) (n' := 12) B hT (by decide) rfl rfl (fun b hb => zr_V B hR kV_yX11_ride km_L_37 kx_11 (gSys_s hG) [.int p0, .int p1] rfl rfl (Nat.le_of_ble_eq_true rfl) dL_ride_5 (m_Sys_ride hX hG p0 p1 M b hb) ⟨(Nat.le_of_ble_eq_true rfl), (Nat.le_of_ble_eq_true rfl)⟩ ⟨(Nat.le_of_ble_eq_true rfl), (Nat.le_of_ble_eq_true rfl)⟩) (fun r M1 => ?_) (fun M1 q => ?_)
  · refine zk_i2l (pc := 8) B dL_ride_8 ?_
    refine zk_last (pc := 9) B ha dL_ride_9 ?_
    refine zk_goto (tgt := 17) (pc := 10) B dL_ride_10 (by decide) ?_
    refine zk_iconst (v := 0) (pc := 17) B dL_ride_17 (by decide) ?_
    exact zk_iret (pc := 18) B dL_ride_18 rfl rfl (Nat.le_of_ble_eq_true rfl) (Nat.le_of_ble_eq_true rfl) rfl
  · refine zk_astore (pc := 13) B dL_ride_13 (by decide) rfl ?_
    refine zk_iconst (v := 1) (pc := 15) B dL_ride_15 (by decide) ?_
    exact zk_iret (pc := 16) B dL_ride_16 rfl rfl (Nat.le_of_ble_eq_true rfl) (Nat.le_of_ble_eq_true rfl) rfl
theorem kW_offer : z_mW yL_offer cL_offer 5 (some .int) [(0, 10, 13, 18)] 4 := ⟨z_in 1169 (by decide +kernel) rfl, z_in 112 (by decide +kernel) rfl, z_in 1170 (by decide +kernel) rfl, by decide +kernel⟩
def F_LW_offer (o oa : Nat) (p0 : Int32) (p1 : Int32) (M : z_Mem) : Option (Int32 × z_Mem) :=
  zw (z_xi M) (F_Sys_offer o p0 p1 M) (fun r M1 => if z_inb (0 : Int32) 1 then some ((0 : Int32), z_wL M1 oa (0 : Int32).toNatClampNeg r.toInt64) else none) (fun e M1 => if e = 1 then some (1, M1) else none)
set_option maxRecDepth 100000 in
theorem w_offer {X : z_X} (hX : z_ok X) (hN : z_okN X) {G : z_Gr} {o oa : Nat} (hG : g_Sys G o) (ha : G.1 oa = some (.inr (2, 1))) (p0 : Int32) (p1 : Int32) (M : z_Mem) (b : Int32 × z_Mem) (h : F_LW_offer o oa p0 p1 M = some b) : z_CtW X yL_offer cL_offer 5 (some .int) [(0, 10, 13, 18)] ({ frames := 8, cells := 2, slots := 12, locals := 144 } : Room) [.ref o, .int p0, .int p1, .ref oa] G M (fun o9 G9 M9 => G9 = G ∧ (o9, M9) = z_cim b) := by
  refine z_enterW hX (by decide) rfl (Nat.le_of_ble_eq_true rfl) h (fun F B hT hR => ?_)
  show z_K X F 5 2 12 G z_cim b 0 0 0 [(0, .ref o), (1, .int p0), (2, .int p1), (3, .ref oa)] [] M (F_LW_offer o oa p0 p1 M)
  unfold F_LW_offer
  refine zk_aload_n (pc := 0) B dL_offer_0 3 rfl rfl ?_
  refine zk_iconst (v := 0) (pc := 1) B dL_offer_1 (by decide) ?_
  refine zk_aload_n (pc := 2) B dL_offer_2 0 rfl rfl ?_
  refine zk_iload_n (pc := 3) B dL_offer_3 1 rfl rfl ?_
  refine zk_iload_n (pc := 4) B dL_offer_4 2 rfl rfl ?_
  refine zk_ct1 (pc := 5) (k' := 2) (n' := 12) B hT (by decide) rfl rfl (fun b hb => zr_V B hR kV_yX11_offer km_L_40 kx_11 (gSys_s hG) [.int p0, .int p1] rfl rfl (Nat.le_of_ble_eq_true rfl) dL_offer_5 (m_Sys_offer hX hG p0 p1 M b hb) ⟨(Nat.le_of_ble_eq_true rfl), (Nat.le_of_ble_eq_true rfl)⟩ ⟨(Nat.le_of_ble_eq_true rfl), (Nat.le_of_ble_eq_true rfl)⟩) (fun r M1 => ?_) (fun M1 q => ?_)
  · refine zk_i2l (pc := 8) B dL_offer_8 ?_
    refine zk_last (pc := 9) B ha dL_offer_9 ?_
    refine zk_goto (tgt := 17) (pc := 10) B dL_offer_10 (by decide) ?_
    refine zk_iconst (v := 0) (pc := 17) B dL_offer_17 (by decide) ?_
    exact zk_iret (pc := 18) B dL_offer_18 rfl rfl (Nat.le_of_ble_eq_true rfl) (Nat.le_of_ble_eq_true rfl) rfl
  · refine zk_astore (pc := 13) B dL_offer_13 (by decide) rfl ?_
    refine zk_iconst (v := 1) (pc := 15) B dL_offer_15 (by decide) ?_
    exact zk_iret (pc := 16) B dL_offer_16 rfl rfl (Nat.le_of_ble_eq_true rfl) (Nat.le_of_ble_eq_true rfl) rfl
theorem kW_extra : z_mW yL_extra cL_extra 5 (some .int) [(0, 10, 13, 18)] 4 := ⟨z_in 1177 (by decide +kernel) rfl, z_in 112 (by decide +kernel) rfl, z_in 1178 (by decide +kernel) rfl, by decide +kernel⟩
def F_LW_extra (o oa : Nat) (p0 : Int32) (p1 : Int32) (M : z_Mem) : Option (Int32 × z_Mem) :=
  zw z_xim (F_Sys_extra o p0 p1 M) (fun r M1 => if z_inb (0 : Int32) 1 then some ((0 : Int32), z_wL M1 oa (0 : Int32).toNatClampNeg r.toInt64) else none) (fun e M1 => if e = 1 then some (1, M1) else none)
set_option maxRecDepth 100000 in
theorem w_extra {X : z_X} (hX : z_ok X) (hN : z_okN X) {G : z_Gr} {o oa : Nat} (hG : g_Sys G o) (ha : G.1 oa = some (.inr (2, 1))) (p0 : Int32) (p1 : Int32) (M : z_Mem) (b : Int32 × z_Mem) (h : F_LW_extra o oa p0 p1 M = some b) : z_CtW X yL_extra cL_extra 5 (some .int) [(0, 10, 13, 18)] ({ frames := 8, cells := 2, slots := 12, locals := 163 } : Room) [.ref o, .int p0, .int p1, .ref oa] G M (fun o9 G9 M9 => G9 = G ∧ (o9, M9) = z_cim b) := by
  refine z_enterW hX (by decide) rfl (Nat.le_of_ble_eq_true rfl) h (fun F B hT hR => ?_)
  show z_K X F 5 2 12 G z_cim b 0 0 0 [(0, .ref o), (1, .int p0), (2, .int p1), (3, .ref oa)] [] M (F_LW_extra o oa p0 p1 M)
  unfold F_LW_extra
  refine zk_aload_n (pc := 0) B dL_extra_0 3 rfl rfl ?_
  refine zk_iconst (v := 0) (pc := 1) B dL_extra_1 (by decide) ?_
  refine zk_aload_n (pc := 2) B dL_extra_2 0 rfl rfl ?_
  refine zk_iload_n (pc := 3) B dL_extra_3 1 rfl rfl ?_
  refine zk_iload_n (pc := 4) B dL_extra_4 2 rfl rfl ?_
  refine zk_ct1 (pc := 5) (k' := 2) (n' := 12) B hT (by decide) rfl rfl (fun b hb => zr_V B hR kV_yX11_extra km_L_43 kx_11 (gSys_s hG) [.int p0, .int p1] rfl rfl (Nat.le_of_ble_eq_true rfl) dL_extra_5 (m_Sys_extra hX hG p0 p1 M b hb) ⟨(Nat.le_of_ble_eq_true rfl), (Nat.le_of_ble_eq_true rfl)⟩ ⟨(Nat.le_of_ble_eq_true rfl), (Nat.le_of_ble_eq_true rfl)⟩) (fun r M1 => ?_) (fun M1 q => ?_)
  · refine zk_i2l (pc := 8) B dL_extra_8 ?_
    refine zk_last (pc := 9) B ha dL_extra_9 ?_
    refine zk_goto (tgt := 17) (pc := 10) B dL_extra_10 (by decide) ?_
    refine zk_iconst (v := 0) (pc := 17) B dL_extra_17 (by decide) ?_
    exact zk_iret (pc := 18) B dL_extra_18 rfl rfl (Nat.le_of_ble_eq_true rfl) (Nat.le_of_ble_eq_true rfl) rfl
  · refine zk_astore (pc := 13) B dL_extra_13 (by decide) rfl ?_
    refine zk_iconst (v := 1) (pc := 15) B dL_extra_15 (by decide) ?_
    exact zk_iret (pc := 16) B dL_extra_16 rfl rfl (Nat.le_of_ble_eq_true rfl) (Nat.le_of_ble_eq_true rfl) rfl
theorem kW_fare : z_mW yL_fare cL_fare 4 (some .int) [(0, 9, 12, 18)] 3 := ⟨z_in 1226 (by decide +kernel) rfl, z_in 112 (by decide +kernel) rfl, z_in 1227 (by decide +kernel) rfl, by decide +kernel⟩
def F_LW_fare (o oa : Nat) (p0 : Int32) (M : z_Mem) : Option (Int32 × z_Mem) :=
  zw z_xim (F_Sys_fare o p0 M) (fun r M1 => if z_inb (0 : Int32) 1 then some ((0 : Int32), z_wL M1 oa (0 : Int32).toNatClampNeg r.toInt64) else none) (fun e M1 => if e = 1 then some (1, M1) else none)
set_option maxRecDepth 100000 in
theorem w_fare {X : z_X} (hX : z_ok X) (hN : z_okN X) {G : z_Gr} {o oa : Nat} (hG : g_Sys G o) (ha : G.1 oa = some (.inr (2, 1))) (p0 : Int32) (M : z_Mem) (b : Int32 × z_Mem) (h : F_LW_fare o oa p0 M = some b) : z_CtW X yL_fare cL_fare 4 (some .int) [(0, 9, 12, 18)] ({ frames := 8, cells := 1, slots := 6, locals := 144 } : Room) [.ref o, .int p0, .ref oa] G M (fun o9 G9 M9 => G9 = G ∧ (o9, M9) = z_cim b) := by
  refine z_enterW hX (by decide) rfl (Nat.le_of_ble_eq_true rfl) h (fun F B hT hR => ?_)
  show z_K X F 4 1 6 G z_cim b 0 0 0 [(0, .ref o), (1, .int p0), (2, .ref oa)] [] M (F_LW_fare o oa p0 M)
  unfold F_LW_fare
  refine zk_aload_n (pc := 0) B dL_fare_0 2 rfl rfl ?_
  refine zk_iconst (v := 0) (pc := 1) B dL_fare_1 (by decide) ?_
  refine zk_aload_n (pc := 2) B dL_fare_2 0 rfl rfl ?_
  refine zk_iload_n (pc := 3) B dL_fare_3 1 rfl rfl ?_
  refine zk_ct1 (pc := 4) (k' := 1) (n' := 6) B hT (by decide) rfl rfl (fun b hb => zr_V B hR kV_yX11_fare km_L_46 kx_11 (gSys_s hG) [.int p0] rfl rfl (Nat.le_of_ble_eq_true rfl) dL_fare_4 (m_Sys_fare hX hG p0 M b hb) ⟨(Nat.le_of_ble_eq_true rfl), (Nat.le_of_ble_eq_true rfl)⟩ ⟨(Nat.le_of_ble_eq_true rfl), (Nat.le_of_ble_eq_true rfl)⟩) (fun r M1 => ?_) (fun M1 q => ?_)
  · refine zk_i2l (pc := 7) B dL_fare_7 ?_
    refine zk_last (pc := 8) B ha dL_fare_8 ?_
    refine zk_goto (tgt := 15) (pc := 9) B dL_fare_9 (by decide) ?_
    refine zk_iconst (v := 0) (pc := 15) B dL_fare_15 (by decide) ?_
    exact zk_iret (pc := 16) B dL_fare_16 rfl rfl (Nat.le_of_ble_eq_true rfl) (Nat.le_of_ble_eq_true rfl) rfl
  · refine zk_astore_n (pc := 12) B dL_fare_12 rfl (by decide) rfl ?_
    refine zk_iconst (v := 1) (pc := 13) B dL_fare_13 (by decide) ?_
    exact zk_iret (pc := 14) B dL_fare_14 rfl rfl (Nat.le_of_ble_eq_true rfl) (Nat.le_of_ble_eq_true rfl) rfl
theorem kW_aloneFare : z_mW yL_aloneFare cL_aloneFare 5 (some .int) [(0, 10, 13, 18)] 4 := ⟨z_in 1271 (by decide +kernel) rfl, z_in 112 (by decide +kernel) rfl, z_in 1272 (by decide +kernel) rfl, by decide +kernel⟩
def F_LW_aloneFare (o oa : Nat) (p0 : Int32) (p1 : Int32) (M : z_Mem) : Option (Int32 × z_Mem) :=
  zw (z_xi M) (F_Sys_aloneFare o p0 p1 M) (fun r M1 => if z_inb (0 : Int32) 1 then some ((0 : Int32), z_wL M1 oa (0 : Int32).toNatClampNeg r.toInt64) else none) (fun e M1 => if e = 1 then some (1, M1) else none)
set_option maxRecDepth 100000 in
theorem w_aloneFare {X : z_X} (hX : z_ok X) (hN : z_okN X) {G : z_Gr} {o oa : Nat} (hG : g_Sys G o) (ha : G.1 oa = some (.inr (2, 1))) (p0 : Int32) (p1 : Int32) (M : z_Mem) (b : Int32 × z_Mem) (h : F_LW_aloneFare o oa p0 p1 M = some b) : z_CtW X yL_aloneFare cL_aloneFare 5 (some .int) [(0, 10, 13, 18)] ({ frames := 8, cells := 2, slots := 12, locals := 144 } : Room) [.ref o, .int p0, .int p1, .ref oa] G M (fun o9 G9 M9 => G9 = G ∧ (o9, M9) = z_cim b) := by
  refine z_enterW hX (by decide) rfl (Nat.le_of_ble_eq_true rfl) h (fun F B hT hR => ?_)
  show z_K X F 5 2 12 G z_cim b 0 0 0 [(0, .ref o), (1, .int p0), (2, .int p1), (3, .ref oa)] [] M (F_LW_aloneFare o oa p0 p1 M)
  unfold F_LW_aloneFare
  refine zk_aload_n (pc := 0) B dL_aloneFare_0 3 rfl rfl ?_
  refine zk_iconst (v := 0) (pc := 1) B dL_aloneFare_1 (by decide) ?_
  refine zk_aload_n (pc := 2) B dL_aloneFare_2 0 rfl rfl ?_
  refine zk_iload_n (pc := 3) B dL_aloneFare_3 1 rfl rfl ?_
  refine zk_iload_n (pc := 4) B dL_aloneFare_4 2 rfl rfl ?_
  refine zk_ct1 (pc := 5) (k' := 2) (n' := 12) B hT (by decide) rfl rfl (fun b hb => zr_V B hR kV_yX11_aloneFare km_L_49 kx_11 (gSys_s hG) [.int p0, .int p1] rfl rfl (Nat.le_of_ble_eq_true rfl) dL_aloneFare_5 (m_Sys_aloneFare hX hG p0 p1 M b hb) ⟨(Nat.le_of_ble_eq_true rfl), (Nat.le_of_ble_eq_true rfl)⟩ ⟨(Nat.le_of_ble_eq_true rfl), (Nat.le_of_ble_eq_true rfl)⟩) (fun r M1 => ?_) (fun M1 q => ?_)
  · refine zk_i2l (pc := 8) B dL_aloneFare_8 ?_
    refine zk_last (pc := 9) B ha dL_aloneFare_9 ?_
    refine zk_goto (tgt := 17) (pc := 10) B dL_aloneFare_10 (by decide) ?_
    refine zk_iconst (v := 0) (pc := 17) B dL_aloneFare_17 (by decide) ?_
    exact zk_iret (pc := 18) B dL_aloneFare_18 rfl rfl (Nat.le_of_ble_eq_true rfl) (Nat.le_of_ble_eq_true rfl) rfl
  · refine zk_astore (pc := 13) B dL_aloneFare_13 (by decide) rfl ?_
    refine zk_iconst (v := 1) (pc := 15) B dL_aloneFare_15 (by decide) ?_
    exact zk_iret (pc := 16) B dL_aloneFare_16 rfl rfl (Nat.le_of_ble_eq_true rfl) (Nat.le_of_ble_eq_true rfl) rfl
theorem kW_keeps : z_mW yL_keeps cL_keeps 4 (some .int) [(0, 16, 19, 18)] 3 := ⟨z_in 1278 (by decide +kernel) rfl, z_in 112 (by decide +kernel) rfl, z_in 1279 (by decide +kernel) rfl, by decide +kernel⟩
def F_LW_keeps (o oa : Nat) (p0 : Int32) (M : z_Mem) : Option (Int32 × z_Mem) :=
  zw z_xim (F_Sys_keeps o p0 M) (fun r M1 => if r = 0 then (if z_inb (0 : Int32) 1 then some ((0 : Int32), z_wL M1 oa (0 : Int32).toNatClampNeg 0) else none) else (if z_inb (0 : Int32) 1 then some ((0 : Int32), z_wL M1 oa (0 : Int32).toNatClampNeg 1) else none)) (fun e M1 => if e = 1 then some (1, M1) else none)
set_option maxRecDepth 100000 in
theorem w_keeps {X : z_X} (hX : z_ok X) (hN : z_okN X) {G : z_Gr} {o oa : Nat} (hG : g_Sys G o) (ha : G.1 oa = some (.inr (2, 1))) (p0 : Int32) (M : z_Mem) (b : Int32 × z_Mem) (h : F_LW_keeps o oa p0 M = some b) : z_CtW X yL_keeps cL_keeps 4 (some .int) [(0, 16, 19, 18)] ({ frames := 8, cells := 1, slots := 6, locals := 143 } : Room) [.ref o, .int p0, .ref oa] G M (fun o9 G9 M9 => G9 = G ∧ (o9, M9) = z_cim b) := by
  refine z_enterW hX (by decide) rfl (Nat.le_of_ble_eq_true rfl) h (fun F B hT hR => ?_)
  show z_K X F 4 1 6 G z_cim b 0 0 0 [(0, .ref o), (1, .int p0), (2, .ref oa)] [] M (F_LW_keeps o oa p0 M)
  unfold F_LW_keeps
  refine zk_aload_n (pc := 0) B dL_keeps_0 2 rfl rfl ?_
  refine zk_iconst (v := 0) (pc := 1) B dL_keeps_1 (by decide) ?_
  refine zk_aload_n (pc := 2) B dL_keeps_2 0 rfl rfl ?_
  refine zk_iload_n (pc := 3) B dL_keeps_3 1 rfl rfl ?_
  refine zk_ct1 (pc := 4) (k' := 1) (n' := 6) B hT (by decide) rfl rfl (fun b hb => zr_V B hR kV_yX11_keeps km_L_52 kx_11 (gSys_s hG) [.int p0] rfl rfl (Nat.le_of_ble_eq_true rfl) dL_keeps_4 (m_Sys_keeps hX hG p0 M b hb) ⟨(Nat.le_of_ble_eq_true rfl), (Nat.le_of_ble_eq_true rfl)⟩ ⟨(Nat.le_of_ble_eq_true rfl), (Nat.le_of_ble_eq_true rfl)⟩) (fun r M1 => ?_) (fun M1 q => ?_)
  · refine zk_if_eq (tgt := 14) (pc := 7) B dL_keeps_7 (by decide) (fun _ => ?_) (fun _ => ?_)
    · refine zk_lconst (v := 0) (pc := 14) B dL_keeps_14 (by decide) ?_
      refine zk_last (pc := 15) B ha dL_keeps_15 ?_
      refine zk_goto (tgt := 22) (pc := 16) B dL_keeps_16 (by decide) ?_
      refine zk_iconst (v := 0) (pc := 22) B dL_keeps_22 (by decide) ?_
      exact zk_iret (pc := 23) B dL_keeps_23 rfl rfl (Nat.le_of_ble_eq_true rfl) (Nat.le_of_ble_eq_true rfl) rfl
    · refine zk_lconst (v := 1) (pc := 10) B dL_keeps_10 (by decide) ?_
      refine zk_goto (tgt := 15) (pc := 11) B dL_keeps_11 (by decide) ?_
      refine zk_last (pc := 15) B ha dL_keeps_15 ?_
      refine zk_goto (tgt := 22) (pc := 16) B dL_keeps_16 (by decide) ?_
      refine zk_iconst (v := 0) (pc := 22) B dL_keeps_22 (by decide) ?_
      exact zk_iret (pc := 23) B dL_keeps_23 rfl rfl (Nat.le_of_ble_eq_true rfl) (Nat.le_of_ble_eq_true rfl) rfl
  · refine zk_astore_n (pc := 19) B dL_keeps_19 rfl (by decide) rfl ?_
    refine zk_iconst (v := 1) (pc := 20) B dL_keeps_20 (by decide) ?_
    exact zk_iret (pc := 21) B dL_keeps_21 rfl rfl (Nat.le_of_ble_eq_true rfl) (Nat.le_of_ble_eq_true rfl) rfl
theorem kW_routeMinutes : z_mW yL_routeMinutes cL_routeMinutes 4 (some .int) [(0, 9, 12, 18)] 3 := ⟨z_in 1286 (by decide +kernel) rfl, z_in 112 (by decide +kernel) rfl, z_in 1287 (by decide +kernel) rfl, by decide +kernel⟩
def F_LW_routeMinutes (o oa : Nat) (p0 : Int32) (M : z_Mem) : Option (Int32 × z_Mem) :=
  zw z_xim (F_Sys_routeMinutes o p0 M) (fun r M1 => if z_inb (0 : Int32) 1 then some ((0 : Int32), z_wL M1 oa (0 : Int32).toNatClampNeg r.toInt64) else none) (fun e M1 => if e = 1 then some (1, M1) else none)
set_option maxRecDepth 100000 in
theorem w_routeMinutes {X : z_X} (hX : z_ok X) (hN : z_okN X) {G : z_Gr} {o oa : Nat} (hG : g_Sys G o) (ha : G.1 oa = some (.inr (2, 1))) (p0 : Int32) (M : z_Mem) (b : Int32 × z_Mem) (h : F_LW_routeMinutes o oa p0 M = some b) : z_CtW X yL_routeMinutes cL_routeMinutes 4 (some .int) [(0, 9, 12, 18)] ({ frames := 8, cells := 1, slots := 6, locals := 142 } : Room) [.ref o, .int p0, .ref oa] G M (fun o9 G9 M9 => G9 = G ∧ (o9, M9) = z_cim b) := by
  refine z_enterW hX (by decide) rfl (Nat.le_of_ble_eq_true rfl) h (fun F B hT hR => ?_)
  show z_K X F 4 1 6 G z_cim b 0 0 0 [(0, .ref o), (1, .int p0), (2, .ref oa)] [] M (F_LW_routeMinutes o oa p0 M)
  unfold F_LW_routeMinutes
  refine zk_aload_n (pc := 0) B dL_routeMinutes_0 2 rfl rfl ?_
  refine zk_iconst (v := 0) (pc := 1) B dL_routeMinutes_1 (by decide) ?_
  refine zk_aload_n (pc := 2) B dL_routeMinutes_2 0 rfl rfl ?_
  refine zk_iload_n (pc := 3) B dL_routeMinutes_3 1 rfl rfl ?_
  refine zk_ct1 (pc := 4) (k' := 1) (n' := 6) B hT (by decide) rfl rfl (fun b hb => zr_V B hR kV_yX11_routeMinutes km_L_56 kx_11 (gSys_s hG) [.int p0] rfl rfl (Nat.le_of_ble_eq_true rfl) dL_routeMinutes_4 (m_Sys_routeMinutes hX hG p0 M b hb) ⟨(Nat.le_of_ble_eq_true rfl), (Nat.le_of_ble_eq_true rfl)⟩ ⟨(Nat.le_of_ble_eq_true rfl), (Nat.le_of_ble_eq_true rfl)⟩) (fun r M1 => ?_) (fun M1 q => ?_)
  · refine zk_i2l (pc := 7) B dL_routeMinutes_7 ?_
    refine zk_last (pc := 8) B ha dL_routeMinutes_8 ?_
    refine zk_goto (tgt := 15) (pc := 9) B dL_routeMinutes_9 (by decide) ?_
    refine zk_iconst (v := 0) (pc := 15) B dL_routeMinutes_15 (by decide) ?_
    exact zk_iret (pc := 16) B dL_routeMinutes_16 rfl rfl (Nat.le_of_ble_eq_true rfl) (Nat.le_of_ble_eq_true rfl) rfl
  · refine zk_astore_n (pc := 12) B dL_routeMinutes_12 rfl (by decide) rfl ?_
    refine zk_iconst (v := 1) (pc := 13) B dL_routeMinutes_13 (by decide) ?_
    exact zk_iret (pc := 14) B dL_routeMinutes_14 rfl rfl (Nat.le_of_ble_eq_true rfl) (Nat.le_of_ble_eq_true rfl) rfl
theorem kW_rides : z_mW yL_rides cL_rides 4 (some .int) [(0, 9, 12, 13)] 3 := ⟨z_in 1293 (by decide +kernel) rfl, z_in 112 (by decide +kernel) rfl, z_in 1294 (by decide +kernel) rfl, by decide +kernel⟩
def F_LW_rides (o oa : Nat) (p0 : Int32) (M : z_Mem) : Option (Int32 × z_Mem) :=
  zw (z_xi M) (F_Sys_rides o p0 M) (fun r M1 => if z_inb (0 : Int32) 1 then some ((0 : Int32), z_wL M1 oa (0 : Int32).toNatClampNeg r.toInt64) else none) (fun e M1 => if e = 1 then none else some (1, M1))
set_option maxRecDepth 100000 in
theorem w_rides {X : z_X} (hX : z_ok X) (hN : z_okN X) {G : z_Gr} {o oa : Nat} (hG : g_Sys G o) (ha : G.1 oa = some (.inr (2, 1))) (p0 : Int32) (M : z_Mem) (b : Int32 × z_Mem) (h : F_LW_rides o oa p0 M = some b) : z_CtW X yL_rides cL_rides 4 (some .int) [(0, 9, 12, 13)] ({ frames := 7, cells := 1, slots := 6, locals := 121 } : Room) [.ref o, .int p0, .ref oa] G M (fun o9 G9 M9 => G9 = G ∧ (o9, M9) = z_cim b) := by
  refine z_enterW hX (by decide) rfl (Nat.le_of_ble_eq_true rfl) h (fun F B hT hR => ?_)
  show z_K X F 4 1 6 G z_cim b 0 0 0 [(0, .ref o), (1, .int p0), (2, .ref oa)] [] M (F_LW_rides o oa p0 M)
  unfold F_LW_rides
  refine zk_aload_n (pc := 0) B dL_rides_0 2 rfl rfl ?_
  refine zk_iconst (v := 0) (pc := 1) B dL_rides_1 (by decide) ?_
  refine zk_aload_n (pc := 2) B dL_rides_2 0 rfl rfl ?_
  refine zk_iload_n (pc := 3) B dL_rides_3 1 rfl rfl ?_
  refine zk_ct2 (pc := 4) (k' := 1) (n' := 6) B hT (by decide) rfl rfl (fun b hb => zr_V B hR kV_yX11_rides km_L_59 kx_11 (gSys_s hG) [.int p0] rfl rfl (Nat.le_of_ble_eq_true rfl) dL_rides_4 (m_Sys_rides hX hG p0 M b hb) ⟨(Nat.le_of_ble_eq_true rfl), (Nat.le_of_ble_eq_true rfl)⟩ ⟨(Nat.le_of_ble_eq_true rfl), (Nat.le_of_ble_eq_true rfl)⟩) (fun r M1 => ?_) (fun M1 q => ?_)
  · refine zk_i2l (pc := 7) B dL_rides_7 ?_
    refine zk_last (pc := 8) B ha dL_rides_8 ?_
    refine zk_goto (tgt := 15) (pc := 9) B dL_rides_9 (by decide) ?_
    refine zk_iconst (v := 0) (pc := 15) B dL_rides_15 (by decide) ?_
    exact zk_iret (pc := 16) B dL_rides_16 rfl rfl (Nat.le_of_ble_eq_true rfl) (Nat.le_of_ble_eq_true rfl) rfl
  · refine zk_astore_n (pc := 12) B dL_rides_12 rfl (by decide) rfl ?_
    refine zk_iconst (v := 1) (pc := 13) B dL_rides_13 (by decide) ?_
    exact zk_iret (pc := 14) B dL_rides_14 rfl rfl (Nat.le_of_ble_eq_true rfl) (Nat.le_of_ble_eq_true rfl) rfl
theorem kW_ask : z_mW yL_ask cL_ask 8 (some .int) [(0, 16, 19, 18), (0, 16, 23, 13)] 7 := ⟨z_in 1301 (by decide +kernel) rfl, z_in 112 (by decide +kernel) rfl, z_in 1302 (by decide +kernel) rfl, by decide +kernel⟩
def F_LW_ask (o oa : Nat) (p0 : Int32) (p1 : Int32) (p2 : Int32) (p3 : Int32) (p4 : Int32) (M : z_Mem) : Option (Int32 × z_Mem) :=
  zw z_xim (F_Sys_ask o p0 p1 p2 p3 p4 M) (fun r M1 => if z_inb (0 : Int32) 1 then some ((0 : Int32), z_wL M1 oa (0 : Int32).toNatClampNeg r.toInt64) else none) (fun e M1 => if e = 1 then some (1, M1) else some (2, M1))
set_option maxRecDepth 100000 in
theorem w_ask {X : z_X} (hX : z_ok X) (hN : z_okN X) {G : z_Gr} {o oa : Nat} (hG : g_Sys G o) (ha : G.1 oa = some (.inr (2, 1))) (p0 : Int32) (p1 : Int32) (p2 : Int32) (p3 : Int32) (p4 : Int32) (M : z_Mem) (b : Int32 × z_Mem) (h : F_LW_ask o oa p0 p1 p2 p3 p4 M = some b) : z_CtW X yL_ask cL_ask 8 (some .int) [(0, 16, 19, 18), (0, 16, 23, 13)] ({ frames := 8, cells := 6, slots := 36, locals := 189 } : Room) [.ref o, .int p0, .int p1, .int p2, .int p3, .int p4, .ref oa] G M (fun o9 G9 M9 => G9 = G ∧ (o9, M9) = z_cim b) := by
  refine z_enterW hX (by decide) rfl (Nat.le_of_ble_eq_true rfl) h (fun F B hT hR => ?_)
  show z_K X F 8 6 36 G z_cim b 0 0 0 [(0, .ref o), (1, .int p0), (2, .int p1), (3, .int p2), (4, .int p3), (5, .int p4), (6, .ref oa)] [] M (F_LW_ask o oa p0 p1 p2 p3 p4 M)
  unfold F_LW_ask
  refine zk_aload (pc := 0) B dL_ask_0 6 rfl ?_
  refine zk_iconst (v := 0) (pc := 2) B dL_ask_2 (by decide) ?_
  refine zk_aload_n (pc := 3) B dL_ask_3 0 rfl rfl ?_
  refine zk_iload_n (pc := 4) B dL_ask_4 1 rfl rfl ?_
  refine zk_iload_n (pc := 5) B dL_ask_5 2 rfl rfl ?_
  refine zk_iload_n (pc := 6) B dL_ask_6 3 rfl rfl ?_
  refine zk_iload (pc := 7) B dL_ask_7 4 rfl ?_
  refine zk_iload (pc := 9) B dL_ask_9 5 rfl ?_
  refine zk_ctB (pc := 11) (k' := 6) (n' := 36) B hN hT (by decide) rfl rfl (fun b hb => zr_V B hR kV_yX11_ask km_L_62 kx_11 (gSys_s hG) [.int p0, .int p1, .int p2, .int p3, .int p4] rfl rfl (Nat.le_of_ble_eq_true rfl) dL_ask_11 (m_Sys_ask hX hG p0 p1 p2 p3 p4 M b hb) ⟨(Nat.le_of_ble_eq_true rfl), (Nat.le_of_ble_eq_true rfl)⟩ ⟨(Nat.le_of_ble_eq_true rfl), (Nat.le_of_ble_eq_true rfl)⟩) (fun r M1 => ?_) (fun M1 q => ?_) (fun M1 q => ?_)
  · refine zk_i2l (pc := 14) B dL_ask_14 ?_
    refine zk_last (pc := 15) B ha dL_ask_15 ?_
    refine zk_goto (tgt := 27) (pc := 16) B dL_ask_16 (by decide) ?_
    refine zk_iconst (v := 0) (pc := 27) B dL_ask_27 (by decide) ?_
    exact zk_iret (pc := 28) B dL_ask_28 rfl rfl (Nat.le_of_ble_eq_true rfl) (Nat.le_of_ble_eq_true rfl) rfl
  · refine zk_astore (pc := 19) B dL_ask_19 (by decide) rfl ?_
    refine zk_iconst (v := 1) (pc := 21) B dL_ask_21 (by decide) ?_
    exact zk_iret (pc := 22) B dL_ask_22 rfl rfl (Nat.le_of_ble_eq_true rfl) (Nat.le_of_ble_eq_true rfl) rfl
  · refine zk_astore (pc := 23) B dL_ask_23 (by decide) rfl ?_
    refine zk_iconst (v := 2) (pc := 25) B dL_ask_25 (by decide) ?_
    exact zk_iret (pc := 26) B dL_ask_26 rfl rfl (Nat.le_of_ble_eq_true rfl) (Nat.le_of_ble_eq_true rfl) rfl
theorem kW_accept : z_mW yL_accept cL_accept 4 (some .int) [(0, 9, 12, 18)] 3 := ⟨z_in 1333 (by decide +kernel) rfl, z_in 112 (by decide +kernel) rfl, z_in 1334 (by decide +kernel) rfl, by decide +kernel⟩
def F_LW_accept (o oa : Nat) (p0 : Int32) (M : z_Mem) : Option (Int32 × z_Mem) :=
  zw z_xim (F_Sys_accept o p0 M) (fun r M1 => if z_inb (0 : Int32) 1 then some ((0 : Int32), z_wL M1 oa (0 : Int32).toNatClampNeg r.toInt64) else none) (fun e M1 => if e = 1 then some (1, M1) else none)
set_option maxRecDepth 100000 in
theorem w_accept {X : z_X} (hX : z_ok X) (hN : z_okN X) {G : z_Gr} {o oa : Nat} (hG : g_Sys G o) (ha : G.1 oa = some (.inr (2, 1))) (p0 : Int32) (M : z_Mem) (b : Int32 × z_Mem) (h : F_LW_accept o oa p0 M = some b) : z_CtW X yL_accept cL_accept 4 (some .int) [(0, 9, 12, 18)] ({ frames := 8, cells := 1, slots := 6, locals := 162 } : Room) [.ref o, .int p0, .ref oa] G M (fun o9 G9 M9 => G9 = G ∧ (o9, M9) = z_cim b) := by
  refine z_enterW hX (by decide) rfl (Nat.le_of_ble_eq_true rfl) h (fun F B hT hR => ?_)
  show z_K X F 4 1 6 G z_cim b 0 0 0 [(0, .ref o), (1, .int p0), (2, .ref oa)] [] M (F_LW_accept o oa p0 M)
  unfold F_LW_accept
  refine zk_aload_n (pc := 0) B dL_accept_0 2 rfl rfl ?_
  refine zk_iconst (v := 0) (pc := 1) B dL_accept_1 (by decide) ?_
  refine zk_aload_n (pc := 2) B dL_accept_2 0 rfl rfl ?_
  refine zk_iload_n (pc := 3) B dL_accept_3 1 rfl rfl ?_
  refine zk_ct1 (pc := 4) (k' := 1) (n' := 6) B hT (by decide) rfl rfl (fun b hb => zr_V B hR kV_yX11_accept km_L_66 kx_11 (gSys_s hG) [.int p0] rfl rfl (Nat.le_of_ble_eq_true rfl) dL_accept_4 (m_Sys_accept hX hG p0 M b hb) ⟨(Nat.le_of_ble_eq_true rfl), (Nat.le_of_ble_eq_true rfl)⟩ ⟨(Nat.le_of_ble_eq_true rfl), (Nat.le_of_ble_eq_true rfl)⟩) (fun r M1 => ?_) (fun M1 q => ?_)
  · refine zk_i2l (pc := 7) B dL_accept_7 ?_
    refine zk_last (pc := 8) B ha dL_accept_8 ?_
    refine zk_goto (tgt := 15) (pc := 9) B dL_accept_9 (by decide) ?_
    refine zk_iconst (v := 0) (pc := 15) B dL_accept_15 (by decide) ?_
    exact zk_iret (pc := 16) B dL_accept_16 rfl rfl (Nat.le_of_ble_eq_true rfl) (Nat.le_of_ble_eq_true rfl) rfl
  · refine zk_astore_n (pc := 12) B dL_accept_12 rfl (by decide) rfl ?_
    refine zk_iconst (v := 1) (pc := 13) B dL_accept_13 (by decide) ?_
    exact zk_iret (pc := 14) B dL_accept_14 rfl rfl (Nat.le_of_ble_eq_true rfl) (Nat.le_of_ble_eq_true rfl) rfl
theorem kW_decline : z_mW yL_decline cL_decline 4 (some .int) [(0, 9, 12, 18)] 3 := ⟨z_in 1346 (by decide +kernel) rfl, z_in 112 (by decide +kernel) rfl, z_in 1347 (by decide +kernel) rfl, by decide +kernel⟩
def F_LW_decline (o oa : Nat) (p0 : Int32) (M : z_Mem) : Option (Int32 × z_Mem) :=
  zw z_xim (F_Sys_decline o p0 M) (fun r M1 => if z_inb (0 : Int32) 1 then some ((0 : Int32), z_wL M1 oa (0 : Int32).toNatClampNeg r.toInt64) else none) (fun e M1 => if e = 1 then some (1, M1) else none)
set_option maxRecDepth 100000 in
theorem w_decline {X : z_X} (hX : z_ok X) (hN : z_okN X) {G : z_Gr} {o oa : Nat} (hG : g_Sys G o) (ha : G.1 oa = some (.inr (2, 1))) (p0 : Int32) (M : z_Mem) (b : Int32 × z_Mem) (h : F_LW_decline o oa p0 M = some b) : z_CtW X yL_decline cL_decline 4 (some .int) [(0, 9, 12, 18)] ({ frames := 8, cells := 1, slots := 6, locals := 143 } : Room) [.ref o, .int p0, .ref oa] G M (fun o9 G9 M9 => G9 = G ∧ (o9, M9) = z_cim b) := by
  refine z_enterW hX (by decide) rfl (Nat.le_of_ble_eq_true rfl) h (fun F B hT hR => ?_)
  show z_K X F 4 1 6 G z_cim b 0 0 0 [(0, .ref o), (1, .int p0), (2, .ref oa)] [] M (F_LW_decline o oa p0 M)
  unfold F_LW_decline
  refine zk_aload_n (pc := 0) B dL_decline_0 2 rfl rfl ?_
  refine zk_iconst (v := 0) (pc := 1) B dL_decline_1 (by decide) ?_
  refine zk_aload_n (pc := 2) B dL_decline_2 0 rfl rfl ?_
  refine zk_iload_n (pc := 3) B dL_decline_3 1 rfl rfl ?_
  refine zk_ct1 (pc := 4) (k' := 1) (n' := 6) B hT (by decide) rfl rfl (fun b hb => zr_V B hR kV_yX11_decline km_L_69 kx_11 (gSys_s hG) [.int p0] rfl rfl (Nat.le_of_ble_eq_true rfl) dL_decline_4 (m_Sys_decline hX hG p0 M b hb) ⟨(Nat.le_of_ble_eq_true rfl), (Nat.le_of_ble_eq_true rfl)⟩ ⟨(Nat.le_of_ble_eq_true rfl), (Nat.le_of_ble_eq_true rfl)⟩) (fun r M1 => ?_) (fun M1 q => ?_)
  · refine zk_i2l (pc := 7) B dL_decline_7 ?_
    refine zk_last (pc := 8) B ha dL_decline_8 ?_
    refine zk_goto (tgt := 15) (pc := 9) B dL_decline_9 (by decide) ?_
    refine zk_iconst (v := 0) (pc := 15) B dL_decline_15 (by decide) ?_
    exact zk_iret (pc := 16) B dL_decline_16 rfl rfl (Nat.le_of_ble_eq_true rfl) (Nat.le_of_ble_eq_true rfl) rfl
  · refine zk_astore_n (pc := 12) B dL_decline_12 rfl (by decide) rfl ?_
    refine zk_iconst (v := 1) (pc := 13) B dL_decline_13 (by decide) ?_
    exact zk_iret (pc := 14) B dL_decline_14 rfl rfl (Nat.le_of_ble_eq_true rfl) (Nat.le_of_ble_eq_true rfl) rfl
theorem kW_cancel : z_mW yL_cancel cL_cancel 4 (some .int) [(0, 9, 12, 18)] 3 := ⟨z_in 1353 (by decide +kernel) rfl, z_in 112 (by decide +kernel) rfl, z_in 1354 (by decide +kernel) rfl, by decide +kernel⟩
def F_LW_cancel (o oa : Nat) (p0 : Int32) (M : z_Mem) : Option (Int32 × z_Mem) :=
  zw z_xim (F_Sys_cancel o p0 M) (fun r M1 => if z_inb (0 : Int32) 1 then some ((0 : Int32), z_wL M1 oa (0 : Int32).toNatClampNeg r.toInt64) else none) (fun e M1 => if e = 1 then some (1, M1) else none)
set_option maxRecDepth 100000 in
theorem w_cancel {X : z_X} (hX : z_ok X) (hN : z_okN X) {G : z_Gr} {o oa : Nat} (hG : g_Sys G o) (ha : G.1 oa = some (.inr (2, 1))) (p0 : Int32) (M : z_Mem) (b : Int32 × z_Mem) (h : F_LW_cancel o oa p0 M = some b) : z_CtW X yL_cancel cL_cancel 4 (some .int) [(0, 9, 12, 18)] ({ frames := 8, cells := 1, slots := 6, locals := 144 } : Room) [.ref o, .int p0, .ref oa] G M (fun o9 G9 M9 => G9 = G ∧ (o9, M9) = z_cim b) := by
  refine z_enterW hX (by decide) rfl (Nat.le_of_ble_eq_true rfl) h (fun F B hT hR => ?_)
  show z_K X F 4 1 6 G z_cim b 0 0 0 [(0, .ref o), (1, .int p0), (2, .ref oa)] [] M (F_LW_cancel o oa p0 M)
  unfold F_LW_cancel
  refine zk_aload_n (pc := 0) B dL_cancel_0 2 rfl rfl ?_
  refine zk_iconst (v := 0) (pc := 1) B dL_cancel_1 (by decide) ?_
  refine zk_aload_n (pc := 2) B dL_cancel_2 0 rfl rfl ?_
  refine zk_iload_n (pc := 3) B dL_cancel_3 1 rfl rfl ?_
  refine zk_ct1 (pc := 4) (k' := 1) (n' := 6) B hT (by decide) rfl rfl (fun b hb => zr_V B hR kV_yX11_cancel km_L_72 kx_11 (gSys_s hG) [.int p0] rfl rfl (Nat.le_of_ble_eq_true rfl) dL_cancel_4 (m_Sys_cancel hX hG p0 M b hb) ⟨(Nat.le_of_ble_eq_true rfl), (Nat.le_of_ble_eq_true rfl)⟩ ⟨(Nat.le_of_ble_eq_true rfl), (Nat.le_of_ble_eq_true rfl)⟩) (fun r M1 => ?_) (fun M1 q => ?_)
  · refine zk_i2l (pc := 7) B dL_cancel_7 ?_
    refine zk_last (pc := 8) B ha dL_cancel_8 ?_
    refine zk_goto (tgt := 15) (pc := 9) B dL_cancel_9 (by decide) ?_
    refine zk_iconst (v := 0) (pc := 15) B dL_cancel_15 (by decide) ?_
    exact zk_iret (pc := 16) B dL_cancel_16 rfl rfl (Nat.le_of_ble_eq_true rfl) (Nat.le_of_ble_eq_true rfl) rfl
  · refine zk_astore_n (pc := 12) B dL_cancel_12 rfl (by decide) rfl ?_
    refine zk_iconst (v := 1) (pc := 13) B dL_cancel_13 (by decide) ?_
    exact zk_iret (pc := 14) B dL_cancel_14 rfl rfl (Nat.le_of_ble_eq_true rfl) (Nat.le_of_ble_eq_true rfl) rfl
theorem kW_absent : z_mW yL_absent cL_absent 4 (some .int) [(0, 9, 12, 18)] 3 := ⟨z_in 1364 (by decide +kernel) rfl, z_in 112 (by decide +kernel) rfl, z_in 1365 (by decide +kernel) rfl, by decide +kernel⟩
def F_LW_absent (o oa : Nat) (p0 : Int32) (M : z_Mem) : Option (Int32 × z_Mem) :=
  zw z_xim (F_Sys_absent o p0 M) (fun r M1 => if z_inb (0 : Int32) 1 then some ((0 : Int32), z_wL M1 oa (0 : Int32).toNatClampNeg r.toInt64) else none) (fun e M1 => if e = 1 then some (1, M1) else none)
set_option maxRecDepth 100000 in
theorem w_absent {X : z_X} (hX : z_ok X) (hN : z_okN X) {G : z_Gr} {o oa : Nat} (hG : g_Sys G o) (ha : G.1 oa = some (.inr (2, 1))) (p0 : Int32) (M : z_Mem) (b : Int32 × z_Mem) (h : F_LW_absent o oa p0 M = some b) : z_CtW X yL_absent cL_absent 4 (some .int) [(0, 9, 12, 18)] ({ frames := 8, cells := 1, slots := 6, locals := 144 } : Room) [.ref o, .int p0, .ref oa] G M (fun o9 G9 M9 => G9 = G ∧ (o9, M9) = z_cim b) := by
  refine z_enterW hX (by decide) rfl (Nat.le_of_ble_eq_true rfl) h (fun F B hT hR => ?_)
  show z_K X F 4 1 6 G z_cim b 0 0 0 [(0, .ref o), (1, .int p0), (2, .ref oa)] [] M (F_LW_absent o oa p0 M)
  unfold F_LW_absent
  refine zk_aload_n (pc := 0) B dL_absent_0 2 rfl rfl ?_
  refine zk_iconst (v := 0) (pc := 1) B dL_absent_1 (by decide) ?_
  refine zk_aload_n (pc := 2) B dL_absent_2 0 rfl rfl ?_
  refine zk_iload_n (pc := 3) B dL_absent_3 1 rfl rfl ?_
  refine zk_ct1 (pc := 4) (k' := 1) (n' := 6) B hT (by decide) rfl rfl (fun b hb => zr_V B hR kV_yX11_absent km_L_75 kx_11 (gSys_s hG) [.int p0] rfl rfl (Nat.le_of_ble_eq_true rfl) dL_absent_4 (m_Sys_absent hX hG p0 M b hb) ⟨(Nat.le_of_ble_eq_true rfl), (Nat.le_of_ble_eq_true rfl)⟩ ⟨(Nat.le_of_ble_eq_true rfl), (Nat.le_of_ble_eq_true rfl)⟩) (fun r M1 => ?_) (fun M1 q => ?_)
  · refine zk_i2l (pc := 7) B dL_absent_7 ?_
    refine zk_last (pc := 8) B ha dL_absent_8 ?_
    refine zk_goto (tgt := 15) (pc := 9) B dL_absent_9 (by decide) ?_
    refine zk_iconst (v := 0) (pc := 15) B dL_absent_15 (by decide) ?_
    exact zk_iret (pc := 16) B dL_absent_16 rfl rfl (Nat.le_of_ble_eq_true rfl) (Nat.le_of_ble_eq_true rfl) rfl
  · refine zk_astore_n (pc := 12) B dL_absent_12 rfl (by decide) rfl ?_
    refine zk_iconst (v := 1) (pc := 13) B dL_absent_13 (by decide) ?_
    exact zk_iret (pc := 14) B dL_absent_14 rfl rfl (Nat.le_of_ble_eq_true rfl) (Nat.le_of_ble_eq_true rfl) rfl
theorem kW_advance : z_mW yL_advance cL_advance 4 (some .int) [(0, 9, 12, 13)] 3 := ⟨z_in 1371 (by decide +kernel) rfl, z_in 112 (by decide +kernel) rfl, z_in 1372 (by decide +kernel) rfl, by decide +kernel⟩
def F_LW_advance (o oa : Nat) (p0 : Int32) (M : z_Mem) : Option (Int32 × z_Mem) :=
  zw z_xim (F_Sys_advance o p0 M) (fun r M1 => if z_inb (0 : Int32) 1 then some ((0 : Int32), z_wL M1 oa (0 : Int32).toNatClampNeg r.toInt64) else none) (fun e M1 => if e = 1 then none else some (1, M1))
set_option maxRecDepth 100000 in
theorem w_advance {X : z_X} (hX : z_ok X) (hN : z_okN X) {G : z_Gr} {o oa : Nat} (hG : g_Sys G o) (ha : G.1 oa = some (.inr (2, 1))) (p0 : Int32) (M : z_Mem) (b : Int32 × z_Mem) (h : F_LW_advance o oa p0 M = some b) : z_CtW X yL_advance cL_advance 4 (some .int) [(0, 9, 12, 13)] ({ frames := 8, cells := 1, slots := 6, locals := 174 } : Room) [.ref o, .int p0, .ref oa] G M (fun o9 G9 M9 => G9 = G ∧ (o9, M9) = z_cim b) := by
  refine z_enterW hX (by decide) rfl (Nat.le_of_ble_eq_true rfl) h (fun F B hT hR => ?_)
  show z_K X F 4 1 6 G z_cim b 0 0 0 [(0, .ref o), (1, .int p0), (2, .ref oa)] [] M (F_LW_advance o oa p0 M)
  unfold F_LW_advance
  refine zk_aload_n (pc := 0) B dL_advance_0 2 rfl rfl ?_
  refine zk_iconst (v := 0) (pc := 1) B dL_advance_1 (by decide) ?_
  refine zk_aload_n (pc := 2) B dL_advance_2 0 rfl rfl ?_
  refine zk_iload_n (pc := 3) B dL_advance_3 1 rfl rfl ?_
  refine zk_ct2 (pc := 4) (k' := 1) (n' := 6) B hT (by decide) rfl rfl (fun b hb => zr_V B hR kV_yX11_advance km_L_78 kx_11 (gSys_s hG) [.int p0] rfl rfl (Nat.le_of_ble_eq_true rfl) dL_advance_4 (m_Sys_advance hX hG p0 M b hb) ⟨(Nat.le_of_ble_eq_true rfl), (Nat.le_of_ble_eq_true rfl)⟩ ⟨(Nat.le_of_ble_eq_true rfl), (Nat.le_of_ble_eq_true rfl)⟩) (fun r M1 => ?_) (fun M1 q => ?_)
  · refine zk_i2l (pc := 7) B dL_advance_7 ?_
    refine zk_last (pc := 8) B ha dL_advance_8 ?_
    refine zk_goto (tgt := 15) (pc := 9) B dL_advance_9 (by decide) ?_
    refine zk_iconst (v := 0) (pc := 15) B dL_advance_15 (by decide) ?_
    exact zk_iret (pc := 16) B dL_advance_16 rfl rfl (Nat.le_of_ble_eq_true rfl) (Nat.le_of_ble_eq_true rfl) rfl
  · refine zk_astore_n (pc := 12) B dL_advance_12 rfl (by decide) rfl ?_
    refine zk_iconst (v := 1) (pc := 13) B dL_advance_13 (by decide) ?_
    exact zk_iret (pc := 14) B dL_advance_14 rfl rfl (Nat.le_of_ble_eq_true rfl) (Nat.le_of_ble_eq_true rfl) rfl
theorem kW_tip : z_mW yL_tip cL_tip 5 (some .int) [(0, 10, 13, 18), (0, 10, 17, 13)] 4 := ⟨z_in 1419 (by decide +kernel) rfl, z_in 112 (by decide +kernel) rfl, z_in 1420 (by decide +kernel) rfl, by decide +kernel⟩
def F_LW_tip (o oa : Nat) (p0 : Int32) (p1 : Int32) (M : z_Mem) : Option (Int32 × z_Mem) :=
  zw z_xim (F_Sys_tip o p0 p1 M) (fun r M1 => if z_inb (0 : Int32) 1 then some ((0 : Int32), z_wL M1 oa (0 : Int32).toNatClampNeg r.toInt64) else none) (fun e M1 => if e = 1 then some (1, M1) else some (2, M1))
set_option maxRecDepth 100000 in
theorem w_tip {X : z_X} (hX : z_ok X) (hN : z_okN X) {G : z_Gr} {o oa : Nat} (hG : g_Sys G o) (ha : G.1 oa = some (.inr (2, 1))) (p0 : Int32) (p1 : Int32) (M : z_Mem) (b : Int32 × z_Mem) (h : F_LW_tip o oa p0 p1 M = some b) : z_CtW X yL_tip cL_tip 5 (some .int) [(0, 10, 13, 18), (0, 10, 17, 13)] ({ frames := 8, cells := 2, slots := 12, locals := 145 } : Room) [.ref o, .int p0, .int p1, .ref oa] G M (fun o9 G9 M9 => G9 = G ∧ (o9, M9) = z_cim b) := by
  refine z_enterW hX (by decide) rfl (Nat.le_of_ble_eq_true rfl) h (fun F B hT hR => ?_)
  show z_K X F 5 2 12 G z_cim b 0 0 0 [(0, .ref o), (1, .int p0), (2, .int p1), (3, .ref oa)] [] M (F_LW_tip o oa p0 p1 M)
  unfold F_LW_tip
  refine zk_aload_n (pc := 0) B dL_tip_0 3 rfl rfl ?_
  refine zk_iconst (v := 0) (pc := 1) B dL_tip_1 (by decide) ?_
  refine zk_aload_n (pc := 2) B dL_tip_2 0 rfl rfl ?_
  refine zk_iload_n (pc := 3) B dL_tip_3 1 rfl rfl ?_
  refine zk_iload_n (pc := 4) B dL_tip_4 2 rfl rfl ?_
  refine zk_ctB (pc := 5) (k' := 2) (n' := 12) B hN hT (by decide) rfl rfl (fun b hb => zr_V B hR kV_yX11_tip km_L_81 kx_11 (gSys_s hG) [.int p0, .int p1] rfl rfl (Nat.le_of_ble_eq_true rfl) dL_tip_5 (m_Sys_tip hX hG p0 p1 M b hb) ⟨(Nat.le_of_ble_eq_true rfl), (Nat.le_of_ble_eq_true rfl)⟩ ⟨(Nat.le_of_ble_eq_true rfl), (Nat.le_of_ble_eq_true rfl)⟩) (fun r M1 => ?_) (fun M1 q => ?_) (fun M1 q => ?_)
  · refine zk_i2l (pc := 8) B dL_tip_8 ?_
    refine zk_last (pc := 9) B ha dL_tip_9 ?_
    refine zk_goto (tgt := 21) (pc := 10) B dL_tip_10 (by decide) ?_
    refine zk_iconst (v := 0) (pc := 21) B dL_tip_21 (by decide) ?_
    exact zk_iret (pc := 22) B dL_tip_22 rfl rfl (Nat.le_of_ble_eq_true rfl) (Nat.le_of_ble_eq_true rfl) rfl
  · refine zk_astore (pc := 13) B dL_tip_13 (by decide) rfl ?_
    refine zk_iconst (v := 1) (pc := 15) B dL_tip_15 (by decide) ?_
    exact zk_iret (pc := 16) B dL_tip_16 rfl rfl (Nat.le_of_ble_eq_true rfl) (Nat.le_of_ble_eq_true rfl) rfl
  · refine zk_astore (pc := 17) B dL_tip_17 (by decide) rfl ?_
    refine zk_iconst (v := 2) (pc := 19) B dL_tip_19 (by decide) ?_
    exact zk_iret (pc := 20) B dL_tip_20 rfl rfl (Nat.le_of_ble_eq_true rfl) (Nat.le_of_ble_eq_true rfl) rfl
theorem kW_setRate : z_mW yL_setRate cL_setRate 4 (some .int) [(0, 9, 12, 13)] 3 := ⟨z_in 1427 (by decide +kernel) rfl, z_in 112 (by decide +kernel) rfl, z_in 1428 (by decide +kernel) rfl, by decide +kernel⟩
def F_LW_setRate (o oa : Nat) (p0 : Int32) (M : z_Mem) : Option (Int32 × z_Mem) :=
  zw z_xim (F_Sys_setRate o p0 M) (fun r M1 => if z_inb (0 : Int32) 1 then some ((0 : Int32), z_wL M1 oa (0 : Int32).toNatClampNeg r.toInt64) else none) (fun e M1 => if e = 1 then none else some (1, M1))
set_option maxRecDepth 100000 in
theorem w_setRate {X : z_X} (hX : z_ok X) (hN : z_okN X) {G : z_Gr} {o oa : Nat} (hG : g_Sys G o) (ha : G.1 oa = some (.inr (2, 1))) (p0 : Int32) (M : z_Mem) (b : Int32 × z_Mem) (h : F_LW_setRate o oa p0 M = some b) : z_CtW X yL_setRate cL_setRate 4 (some .int) [(0, 9, 12, 13)] ({ frames := 8, cells := 1, slots := 6, locals := 144 } : Room) [.ref o, .int p0, .ref oa] G M (fun o9 G9 M9 => G9 = G ∧ (o9, M9) = z_cim b) := by
  refine z_enterW hX (by decide) rfl (Nat.le_of_ble_eq_true rfl) h (fun F B hT hR => ?_)
  show z_K X F 4 1 6 G z_cim b 0 0 0 [(0, .ref o), (1, .int p0), (2, .ref oa)] [] M (F_LW_setRate o oa p0 M)
  unfold F_LW_setRate
  refine zk_aload_n (pc := 0) B dL_setRate_0 2 rfl rfl ?_
  refine zk_iconst (v := 0) (pc := 1) B dL_setRate_1 (by decide) ?_
  refine zk_aload_n (pc := 2) B dL_setRate_2 0 rfl rfl ?_
  refine zk_iload_n (pc := 3) B dL_setRate_3 1 rfl rfl ?_
  refine zk_ct2 (pc := 4) (k' := 1) (n' := 6) B hT (by decide) rfl rfl (fun b hb => zr_V B hR kV_yX11_setRate km_L_84 kx_11 (gSys_s hG) [.int p0] rfl rfl (Nat.le_of_ble_eq_true rfl) dL_setRate_4 (m_Sys_setRate hX hG p0 M b hb) ⟨(Nat.le_of_ble_eq_true rfl), (Nat.le_of_ble_eq_true rfl)⟩ ⟨(Nat.le_of_ble_eq_true rfl), (Nat.le_of_ble_eq_true rfl)⟩) (fun r M1 => ?_) (fun M1 q => ?_)
  · refine zk_i2l (pc := 7) B dL_setRate_7 ?_
    refine zk_last (pc := 8) B ha dL_setRate_8 ?_
    refine zk_goto (tgt := 15) (pc := 9) B dL_setRate_9 (by decide) ?_
    refine zk_iconst (v := 0) (pc := 15) B dL_setRate_15 (by decide) ?_
    exact zk_iret (pc := 16) B dL_setRate_16 rfl rfl (Nat.le_of_ble_eq_true rfl) (Nat.le_of_ble_eq_true rfl) rfl
  · refine zk_astore_n (pc := 12) B dL_setRate_12 rfl (by decide) rfl ?_
    refine zk_iconst (v := 1) (pc := 13) B dL_setRate_13 (by decide) ?_
    exact zk_iret (pc := 14) B dL_setRate_14 rfl rfl (Nat.le_of_ble_eq_true rfl) (Nat.le_of_ble_eq_true rfl) rfl
theorem kW_setEnd : z_mW yL_setEnd cL_setEnd 5 (some .int) [(0, 10, 13, 18), (0, 10, 17, 13)] 4 := ⟨z_in 1434 (by decide +kernel) rfl, z_in 112 (by decide +kernel) rfl, z_in 1435 (by decide +kernel) rfl, by decide +kernel⟩
def F_LW_setEnd (o oa : Nat) (p0 : Int32) (p1 : Int32) (M : z_Mem) : Option (Int32 × z_Mem) :=
  zw z_xim (F_Sys_setEnd o p0 p1 M) (fun r M1 => if z_inb (0 : Int32) 1 then some ((0 : Int32), z_wL M1 oa (0 : Int32).toNatClampNeg r.toInt64) else none) (fun e M1 => if e = 1 then some (1, M1) else some (2, M1))
set_option maxRecDepth 100000 in
theorem w_setEnd {X : z_X} (hX : z_ok X) (hN : z_okN X) {G : z_Gr} {o oa : Nat} (hG : g_Sys G o) (ha : G.1 oa = some (.inr (2, 1))) (p0 : Int32) (p1 : Int32) (M : z_Mem) (b : Int32 × z_Mem) (h : F_LW_setEnd o oa p0 p1 M = some b) : z_CtW X yL_setEnd cL_setEnd 5 (some .int) [(0, 10, 13, 18), (0, 10, 17, 13)] ({ frames := 8, cells := 2, slots := 12, locals := 146 } : Room) [.ref o, .int p0, .int p1, .ref oa] G M (fun o9 G9 M9 => G9 = G ∧ (o9, M9) = z_cim b) := by
  refine z_enterW hX (by decide) rfl (Nat.le_of_ble_eq_true rfl) h (fun F B hT hR => ?_)
  show z_K X F 5 2 12 G z_cim b 0 0 0 [(0, .ref o), (1, .int p0), (2, .int p1), (3, .ref oa)] [] M (F_LW_setEnd o oa p0 p1 M)
  unfold F_LW_setEnd
  refine zk_aload_n (pc := 0) B dL_setEnd_0 3 rfl rfl ?_
  refine zk_iconst (v := 0) (pc := 1) B dL_setEnd_1 (by decide) ?_
  refine zk_aload_n (pc := 2) B dL_setEnd_2 0 rfl rfl ?_
  refine zk_iload_n (pc := 3) B dL_setEnd_3 1 rfl rfl ?_
  refine zk_iload_n (pc := 4) B dL_setEnd_4 2 rfl rfl ?_
  refine zk_ctB (pc := 5) (k' := 2) (n' := 12) B hN hT (by decide) rfl rfl (fun b hb => zr_V B hR kV_yX11_setEnd km_L_87 kx_11 (gSys_s hG) [.int p0, .int p1] rfl rfl (Nat.le_of_ble_eq_true rfl) dL_setEnd_5 (m_Sys_setEnd hX hG p0 p1 M b hb) ⟨(Nat.le_of_ble_eq_true rfl), (Nat.le_of_ble_eq_true rfl)⟩ ⟨(Nat.le_of_ble_eq_true rfl), (Nat.le_of_ble_eq_true rfl)⟩) (fun r M1 => ?_) (fun M1 q => ?_) (fun M1 q => ?_)
  · refine zk_i2l (pc := 8) B dL_setEnd_8 ?_
    refine zk_last (pc := 9) B ha dL_setEnd_9 ?_
    refine zk_goto (tgt := 21) (pc := 10) B dL_setEnd_10 (by decide) ?_
    refine zk_iconst (v := 0) (pc := 21) B dL_setEnd_21 (by decide) ?_
    exact zk_iret (pc := 22) B dL_setEnd_22 rfl rfl (Nat.le_of_ble_eq_true rfl) (Nat.le_of_ble_eq_true rfl) rfl
  · refine zk_astore (pc := 13) B dL_setEnd_13 (by decide) rfl ?_
    refine zk_iconst (v := 1) (pc := 15) B dL_setEnd_15 (by decide) ?_
    exact zk_iret (pc := 16) B dL_setEnd_16 rfl rfl (Nat.le_of_ble_eq_true rfl) (Nat.le_of_ble_eq_true rfl) rfl
  · refine zk_astore (pc := 17) B dL_setEnd_17 (by decide) rfl ?_
    refine zk_iconst (v := 2) (pc := 19) B dL_setEnd_19 (by decide) ?_
    exact zk_iret (pc := 20) B dL_setEnd_20 rfl rfl (Nat.le_of_ble_eq_true rfl) (Nat.le_of_ble_eq_true rfl) rfl
theorem kW_setRule : z_mW yL_setRule cL_setRule 5 (some .int) [(0, 10, 13, 18), (0, 10, 17, 13)] 4 := ⟨z_in 1441 (by decide +kernel) rfl, z_in 112 (by decide +kernel) rfl, z_in 1442 (by decide +kernel) rfl, by decide +kernel⟩
def F_LW_setRule (o oa : Nat) (p0 : Int32) (p1 : Int32) (M : z_Mem) : Option (Int32 × z_Mem) :=
  zw z_xim (F_Sys_setRule o p0 p1 M) (fun r M1 => if z_inb (0 : Int32) 1 then some ((0 : Int32), z_wL M1 oa (0 : Int32).toNatClampNeg r.toInt64) else none) (fun e M1 => if e = 1 then some (1, M1) else some (2, M1))
set_option maxRecDepth 100000 in
theorem w_setRule {X : z_X} (hX : z_ok X) (hN : z_okN X) {G : z_Gr} {o oa : Nat} (hG : g_Sys G o) (ha : G.1 oa = some (.inr (2, 1))) (p0 : Int32) (p1 : Int32) (M : z_Mem) (b : Int32 × z_Mem) (h : F_LW_setRule o oa p0 p1 M = some b) : z_CtW X yL_setRule cL_setRule 5 (some .int) [(0, 10, 13, 18), (0, 10, 17, 13)] ({ frames := 8, cells := 2, slots := 12, locals := 145 } : Room) [.ref o, .int p0, .int p1, .ref oa] G M (fun o9 G9 M9 => G9 = G ∧ (o9, M9) = z_cim b) := by
  refine z_enterW hX (by decide) rfl (Nat.le_of_ble_eq_true rfl) h (fun F B hT hR => ?_)
  show z_K X F 5 2 12 G z_cim b 0 0 0 [(0, .ref o), (1, .int p0), (2, .int p1), (3, .ref oa)] [] M (F_LW_setRule o oa p0 p1 M)
  unfold F_LW_setRule
  refine zk_aload_n (pc := 0) B dL_setRule_0 3 rfl rfl ?_
  refine zk_iconst (v := 0) (pc := 1) B dL_setRule_1 (by decide) ?_
  refine zk_aload_n (pc := 2) B dL_setRule_2 0 rfl rfl ?_
  refine zk_iload_n (pc := 3) B dL_setRule_3 1 rfl rfl ?_
  refine zk_iload_n (pc := 4) B dL_setRule_4 2 rfl rfl ?_
  refine zk_ctB (pc := 5) (k' := 2) (n' := 12) B hN hT (by decide) rfl rfl (fun b hb => zr_V B hR kV_yX11_setRule km_L_90 kx_11 (gSys_s hG) [.int p0, .int p1] rfl rfl (Nat.le_of_ble_eq_true rfl) dL_setRule_5 (m_Sys_setRule hX hG p0 p1 M b hb) ⟨(Nat.le_of_ble_eq_true rfl), (Nat.le_of_ble_eq_true rfl)⟩ ⟨(Nat.le_of_ble_eq_true rfl), (Nat.le_of_ble_eq_true rfl)⟩) (fun r M1 => ?_) (fun M1 q => ?_) (fun M1 q => ?_)
  · refine zk_i2l (pc := 8) B dL_setRule_8 ?_
    refine zk_last (pc := 9) B ha dL_setRule_9 ?_
    refine zk_goto (tgt := 21) (pc := 10) B dL_setRule_10 (by decide) ?_
    refine zk_iconst (v := 0) (pc := 21) B dL_setRule_21 (by decide) ?_
    exact zk_iret (pc := 22) B dL_setRule_22 rfl rfl (Nat.le_of_ble_eq_true rfl) (Nat.le_of_ble_eq_true rfl) rfl
  · refine zk_astore (pc := 13) B dL_setRule_13 (by decide) rfl ?_
    refine zk_iconst (v := 1) (pc := 15) B dL_setRule_15 (by decide) ?_
    exact zk_iret (pc := 16) B dL_setRule_16 rfl rfl (Nat.le_of_ble_eq_true rfl) (Nat.le_of_ble_eq_true rfl) rfl
  · refine zk_astore (pc := 17) B dL_setRule_17 (by decide) rfl ?_
    refine zk_iconst (v := 2) (pc := 19) B dL_setRule_19 (by decide) ?_
    exact zk_iret (pc := 20) B dL_setRule_20 rfl rfl (Nat.le_of_ble_eq_true rfl) (Nat.le_of_ble_eq_true rfl) rfl
theorem kW_format : z_mW yL_format cL_format 4 (some .int) [(0, 9, 12, 18)] 3 := ⟨z_in 1451 (by decide +kernel) rfl, z_in 112 (by decide +kernel) rfl, z_in 1452 (by decide +kernel) rfl, by decide +kernel⟩
def F_LW_format (o oa : Nat) (p0 : Int32) (M : z_Mem) : Option (Int32 × z_Mem) :=
  zw z_xim (F_Sys_format o p0 M) (fun r M1 => if z_inb (0 : Int32) 1 then some ((0 : Int32), z_wL M1 oa (0 : Int32).toNatClampNeg r.toInt64) else none) (fun e M1 => if e = 1 then some (1, M1) else none)
set_option maxRecDepth 100000 in
theorem w_format {X : z_X} (hX : z_ok X) (hN : z_okN X) {G : z_Gr} {o oa : Nat} (hG : g_Sys G o) (ha : G.1 oa = some (.inr (2, 1))) (p0 : Int32) (M : z_Mem) (b : Int32 × z_Mem) (h : F_LW_format o oa p0 M = some b) : z_CtW X yL_format cL_format 4 (some .int) [(0, 9, 12, 18)] ({ frames := 8, cells := 1, slots := 6, locals := 144 } : Room) [.ref o, .int p0, .ref oa] G M (fun o9 G9 M9 => G9 = G ∧ (o9, M9) = z_cim b) := by
  refine z_enterW hX (by decide) rfl (Nat.le_of_ble_eq_true rfl) h (fun F B hT hR => ?_)
  show z_K X F 4 1 6 G z_cim b 0 0 0 [(0, .ref o), (1, .int p0), (2, .ref oa)] [] M (F_LW_format o oa p0 M)
  unfold F_LW_format
  refine zk_aload_n (pc := 0) B dL_format_0 2 rfl rfl ?_
  refine zk_iconst (v := 0) (pc := 1) B dL_format_1 (by decide) ?_
  refine zk_aload_n (pc := 2) B dL_format_2 0 rfl rfl ?_
  refine zk_iload_n (pc := 3) B dL_format_3 1 rfl rfl ?_
  refine zk_ct1 (pc := 4) (k' := 1) (n' := 6) B hT (by decide) rfl rfl (fun b hb => zr_V B hR kV_yX11_format km_L_93 kx_11 (gSys_s hG) [.int p0] rfl rfl (Nat.le_of_ble_eq_true rfl) dL_format_4 (m_Sys_format hX hG p0 M b hb) ⟨(Nat.le_of_ble_eq_true rfl), (Nat.le_of_ble_eq_true rfl)⟩ ⟨(Nat.le_of_ble_eq_true rfl), (Nat.le_of_ble_eq_true rfl)⟩) (fun r M1 => ?_) (fun M1 q => ?_)
  · refine zk_i2l (pc := 7) B dL_format_7 ?_
    refine zk_last (pc := 8) B ha dL_format_8 ?_
    refine zk_goto (tgt := 15) (pc := 9) B dL_format_9 (by decide) ?_
    refine zk_iconst (v := 0) (pc := 15) B dL_format_15 (by decide) ?_
    exact zk_iret (pc := 16) B dL_format_16 rfl rfl (Nat.le_of_ble_eq_true rfl) (Nat.le_of_ble_eq_true rfl) rfl
  · refine zk_astore_n (pc := 12) B dL_format_12 rfl (by decide) rfl ?_
    refine zk_iconst (v := 1) (pc := 13) B dL_format_13 (by decide) ?_
    exact zk_iret (pc := 14) B dL_format_14 rfl rfl (Nat.le_of_ble_eq_true rfl) (Nat.le_of_ble_eq_true rfl) rfl
theorem kW_query : z_mW yL_query cL_query 4 (some .int) [(0, 9, 12, 13)] 3 := ⟨z_in 1466 (by decide +kernel) rfl, z_in 112 (by decide +kernel) rfl, z_in 1467 (by decide +kernel) rfl, by decide +kernel⟩
def F_LW_query (o oa : Nat) (p0 : Int32) (M : z_Mem) : Option (Int32 × z_Mem) :=
  zw z_xim (F_Sys_query o p0 M) (fun r M1 => if z_inb (0 : Int32) 1 then some ((0 : Int32), z_wL M1 oa (0 : Int32).toNatClampNeg r.toInt64) else none) (fun e M1 => if e = 1 then none else some (1, M1))
set_option maxRecDepth 100000 in
theorem w_query {X : z_X} (hX : z_ok X) (hN : z_okN X) {G : z_Gr} {o oa : Nat} (hG : g_Sys G o) (ha : G.1 oa = some (.inr (2, 1))) (p0 : Int32) (M : z_Mem) (b : Int32 × z_Mem) (h : F_LW_query o oa p0 M = some b) : z_CtW X yL_query cL_query 4 (some .int) [(0, 9, 12, 13)] ({ frames := 47, cells := 1, slots := 6, locals := 1250 } : Room) [.ref o, .int p0, .ref oa] G M (fun o9 G9 M9 => G9 = G ∧ (o9, M9) = z_cim b) := by
  refine z_enterW hX (by decide) rfl (Nat.le_of_ble_eq_true rfl) h (fun F B hT hR => ?_)
  show z_K X F 4 1 6 G z_cim b 0 0 0 [(0, .ref o), (1, .int p0), (2, .ref oa)] [] M (F_LW_query o oa p0 M)
  unfold F_LW_query
  refine zk_aload_n (pc := 0) B dL_query_0 2 rfl rfl ?_
  refine zk_iconst (v := 0) (pc := 1) B dL_query_1 (by decide) ?_
  refine zk_aload_n (pc := 2) B dL_query_2 0 rfl rfl ?_
  refine zk_iload_n (pc := 3) B dL_query_3 1 rfl rfl ?_
  refine zk_ct2 (pc := 4) (k' := 1) (n' := 6) B hT (by decide) rfl rfl (fun b hb => zr_V B hR kV_yX11_query km_L_96 kx_11 (gSys_s hG) [.int p0] rfl rfl (Nat.le_of_ble_eq_true rfl) dL_query_4 (m_Sys_query hX hG p0 M b hb) ⟨(Nat.le_of_ble_eq_true rfl), (Nat.le_of_ble_eq_true rfl)⟩ ⟨(Nat.le_of_ble_eq_true rfl), (Nat.le_of_ble_eq_true rfl)⟩) (fun r M1 => ?_) (fun M1 q => ?_)
  · refine zk_i2l (pc := 7) B dL_query_7 ?_
    refine zk_last (pc := 8) B ha dL_query_8 ?_
    refine zk_goto (tgt := 15) (pc := 9) B dL_query_9 (by decide) ?_
    refine zk_iconst (v := 0) (pc := 15) B dL_query_15 (by decide) ?_
    exact zk_iret (pc := 16) B dL_query_16 rfl rfl (Nat.le_of_ble_eq_true rfl) (Nat.le_of_ble_eq_true rfl) rfl
  · refine zk_astore_n (pc := 12) B dL_query_12 rfl (by decide) rfl ?_
    refine zk_iconst (v := 1) (pc := 13) B dL_query_13 (by decide) ?_
    exact zk_iret (pc := 14) B dL_query_14 rfl rfl (Nat.le_of_ble_eq_true rfl) (Nat.le_of_ble_eq_true rfl) rfl
