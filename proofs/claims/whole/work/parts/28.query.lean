/-! ===== the reader of queries: its recursion by depth (by program, but for m_QR) ===== -/
def F_QueryReader_readOpened (o : Nat) (rT rF : Int32 → z_Mem → Option (Int32 × z_Mem)) (p0 : Int32) (M : z_Mem) : Option (Int32 × z_Mem) :=
  if p0 < 6 then
    zb (F_Tokens_isWord o 25 M) fun x1 =>
    zb (F_Tokens_next o M) fun M2 =>
    if x1 = 0 then
      zb2 (rT (p0 + 1) M2) fun x4 M3 =>
      zb (F_Tokens_takeSign o 41 M3) fun M5 =>
      some (x4, M5)
    else
      zb2 (rF (p0 + 1) M2) fun x7 M6 =>
      some ((x7 ^^^ (-1)), M6)
  else
    zb (F_Tokens_fail o 3 M) fun M8 =>
    some (0, M8)
set_option maxHeartbeats 4000000 in
set_option maxRecDepth 100000 in
theorem m_QueryReader_readOpened {X : z_X} (hX : z_ok X) {G : z_Gr} {o : Nat} (hG : g_Sys G o) {rT rF : Int32 → z_Mem → Option (Int32 × z_Mem)} (f9 l9 fr9 lo9 : Nat) (hf9 : 12 ≤ f9) (hl9 : 300 ≤ l9) (hfr : f9 + 1 ≤ fr9) (hlo : l9 + 24 ≤ lo9) (hT : ∀ (p : Int32) (M : z_Mem) (b : Int32 × z_Mem), rT p M = some b → z_Ct X yX4_readTest cX4_readTest 4 (some .int) ({ frames := f9, cells := 0, slots := 0, locals := l9 } : Room) [.ref (o + 547), .int p] G M (fun o9 G9 M9 => G9 = G ∧ (o9, M9) = z_cim b)) (hF : ∀ (p : Int32) (M : z_Mem) (b : Int32 × z_Mem), rF p M = some b → z_Ct X yX4_readFactor cX4_readFactor 5 (some .int) ({ frames := f9, cells := 0, slots := 0, locals := l9 } : Room) [.ref (o + 547), .int p] G M (fun o9 G9 M9 => G9 = G ∧ (o9, M9) = z_cim b)) (p0 : Int32) (M : z_Mem) (b : Int32 × z_Mem) (h : F_QueryReader_readOpened o rT rF p0 M = some b) : z_Ct X yX4_readOpened cX4_readOpened 4 (some .int) ({ frames := fr9, cells := 0, slots := 0, locals := lo9 } : Room) [.ref (o + 547), .int p0] G M (fun o9 G9 M9 => G9 = G ∧ (o9, M9) = z_cim b) := by
  refine z_enter hX (by decide) (Nat.le_of_ble_eq_true rfl) h (fun F B hR => ?_)
  show z_K X F 4 0 0 G z_cim b 0 0 0 [(0, .ref (o + 547)), (1, .int p0)] [] M (F_QueryReader_readOpened o rT rF p0 M)
  unfold F_QueryReader_readOpened
  refine zk_iload_n (pc := 0) B dX4_readOpened_0 1 rfl rfl ?_
  refine zk_bipush (v := 6) (pc := 1) B dX4_readOpened_1 (by decide) ?_
  refine zk_icmp_lt (tgt := 16) (pc := 3) B dX4_readOpened_3 (by decide) (fun _ => ?_) (fun _ => ?_)
  · refine zk_aload_n (pc := 16) B dX4_readOpened_16 0 rfl rfl ?_
    refine zk_getr (pc := 17) B kx_4 (gQueryReader_s hG) 0 (by decide) kf_4_9 rfl (gQueryReader_f0 hG) dX4_readOpened_17 ?_
    refine zk_bipush (v := 25) (pc := 20) B dX4_readOpened_20 (by decide) ?_
    refine zk_cpi (pc := 22) (k' := 0) (n' := 0) B rfl rfl (Nat.le_of_ble_eq_true rfl) (Nat.le_of_ble_eq_true rfl) (fun b hb => zr_V B hR kV_yX8_isWord km_4_46 kx_8 (gTokens_s hG) [.int 25] rfl rfl (Nat.le_of_ble_eq_true rfl) dX4_readOpened_22 (m_Tokens_isWord hX hG 25 M b hb) ⟨by first | omega | (dsimp only; omega), by first | omega | (dsimp only; omega)⟩ ⟨by first | omega | (dsimp only; omega), by first | omega | (dsimp only; omega)⟩) (fun x1 _ => ?_)
    refine zk_istore_n (loc' := [(2, .int x1), (0, .ref (o + 547)), (1, .int p0)]) (pc := 25) B dX4_readOpened_25 rfl (by decide) rfl ?_
    refine zk_aload_n (pc := 26) B dX4_readOpened_26 1 rfl rfl ?_
    refine zk_getr (pc := 27) B kx_4 (gQueryReader_s hG) 0 (by decide) kf_4_9 rfl (gQueryReader_f0 hG) dX4_readOpened_27 ?_
    refine zk_cvm (pc := 30) (k' := 0) (n' := 0) B rfl rfl (Nat.le_of_ble_eq_true rfl) (Nat.le_of_ble_eq_true rfl) (fun b hb => zr_V B hR kV_yX8_next km_4_50 kx_8 (gTokens_s hG) [] rfl rfl (Nat.le_of_ble_eq_true rfl) dX4_readOpened_30 (m_Tokens_next hX hG M b hb) ⟨by first | omega | (dsimp only; omega), by first | omega | (dsimp only; omega)⟩ ⟨by first | omega | (dsimp only; omega), by first | omega | (dsimp only; omega)⟩) (fun M2 => ?_)
    refine zk_iload_n (pc := 33) B dX4_readOpened_33 0 rfl rfl ?_
    refine zk_if_eq (tgt := 47) (pc := 34) B dX4_readOpened_34 (by decide) (fun _ => ?_) (fun _ => ?_)
    · refine zk_aload_n (pc := 47) B dX4_readOpened_47 1 rfl rfl ?_
      refine zk_iload_n (pc := 48) B dX4_readOpened_48 2 rfl rfl ?_
      refine zk_iconst (v := 1) (pc := 49) B dX4_readOpened_49 (by decide) ?_
      refine zk_iadd (pc := 50) B dX4_readOpened_50 ?_
      refine zk_cim (pc := 51) (k' := 0) (n' := 0) B rfl rfl (Nat.le_of_ble_eq_true rfl) (Nat.le_of_ble_eq_true rfl) (fun b hb => zr_V B hR kV_yX4_readTest km_4_25 kx_4 (gQueryReader_s hG) [.int (p0 + 1)] rfl rfl (Nat.le_of_ble_eq_true rfl) dX4_readOpened_51 (hT (p0 + 1) M2 b hb) ⟨by first | omega | (dsimp only; omega), by first | omega | (dsimp only; omega)⟩ ⟨by first | omega | (dsimp only; omega), by first | omega | (dsimp only; omega)⟩) (fun x4 M3 => ?_)
      refine zk_istore_n (loc' := [(3, .int x4), (2, .int x1), (0, .ref (o + 547)), (1, .int p0)]) (pc := 54) B dX4_readOpened_54 rfl (by decide) rfl ?_
      refine zk_aload_n (pc := 55) B dX4_readOpened_55 2 rfl rfl ?_
      refine zk_getr (pc := 56) B kx_4 (gQueryReader_s hG) 0 (by decide) kf_4_9 rfl (gQueryReader_f0 hG) dX4_readOpened_56 ?_
      refine zk_bipush (v := 41) (pc := 59) B dX4_readOpened_59 (by decide) ?_
      refine zk_cvm (pc := 61) (k' := 0) (n' := 0) B rfl rfl (Nat.le_of_ble_eq_true rfl) (Nat.le_of_ble_eq_true rfl) (fun b hb => zr_V B hR kV_yX8_takeSign km_4_71 kx_8 (gTokens_s hG) [.int 41] rfl rfl (Nat.le_of_ble_eq_true rfl) dX4_readOpened_61 (m_Tokens_takeSign hX hG 41 M3 b hb) ⟨by first | omega | (dsimp only; omega), by first | omega | (dsimp only; omega)⟩ ⟨by first | omega | (dsimp only; omega), by first | omega | (dsimp only; omega)⟩) (fun M5 => ?_)
      refine zk_iload_n (pc := 64) B dX4_readOpened_64 0 rfl rfl ?_
      exact zk_iret (pc := 65) B dX4_readOpened_65 rfl rfl (Nat.le_of_ble_eq_true rfl) (Nat.le_of_ble_eq_true rfl) rfl
    · refine zk_aload_n (pc := 37) B dX4_readOpened_37 1 rfl rfl ?_
      refine zk_iload_n (pc := 38) B dX4_readOpened_38 2 rfl rfl ?_
      refine zk_iconst (v := 1) (pc := 39) B dX4_readOpened_39 (by decide) ?_
      refine zk_iadd (pc := 40) B dX4_readOpened_40 ?_
      refine zk_cim (pc := 41) (k' := 0) (n' := 0) B rfl rfl (Nat.le_of_ble_eq_true rfl) (Nat.le_of_ble_eq_true rfl) (fun b hb => zr_V B hR kV_yX4_readFactor km_4_53 kx_4 (gQueryReader_s hG) [.int (p0 + 1)] rfl rfl (Nat.le_of_ble_eq_true rfl) dX4_readOpened_41 (hF (p0 + 1) M2 b hb) ⟨by first | omega | (dsimp only; omega), by first | omega | (dsimp only; omega)⟩ ⟨by first | omega | (dsimp only; omega), by first | omega | (dsimp only; omega)⟩) (fun x7 M6 => ?_)
      refine zk_iconst (v := (-1)) (pc := 44) B dX4_readOpened_44 (by decide) ?_
      refine zk_ixor (pc := 45) B dX4_readOpened_45 ?_
      exact zk_iret (pc := 46) B dX4_readOpened_46 rfl rfl (Nat.le_of_ble_eq_true rfl) (Nat.le_of_ble_eq_true rfl) rfl
  · refine zk_aload_n (pc := 6) B dX4_readOpened_6 0 rfl rfl ?_
    refine zk_getr (pc := 7) B kx_4 (gQueryReader_s hG) 0 (by decide) kf_4_9 rfl (gQueryReader_f0 hG) dX4_readOpened_7 ?_
    refine zk_iconst (v := 3) (pc := 10) B dX4_readOpened_10 (by decide) ?_
    refine zk_cvm (pc := 11) (k' := 0) (n' := 0) B rfl rfl (Nat.le_of_ble_eq_true rfl) (Nat.le_of_ble_eq_true rfl) (fun b hb => zr_V B hR kV_yX8_fail km_4_33 kx_8 (gTokens_s hG) [.int 3] rfl rfl (Nat.le_of_ble_eq_true rfl) dX4_readOpened_11 (m_Tokens_fail hX hG 3 M b hb) ⟨by first | omega | (dsimp only; omega), by first | omega | (dsimp only; omega)⟩ ⟨by first | omega | (dsimp only; omega), by first | omega | (dsimp only; omega)⟩) (fun M8 => ?_)
    refine zk_iconst (v := 0) (pc := 14) B dX4_readOpened_14 (by decide) ?_
    exact zk_iret (pc := 15) B dX4_readOpened_15 rfl rfl (Nat.le_of_ble_eq_true rfl) (Nat.le_of_ble_eq_true rfl) rfl
def F_QueryReader_readFactor_J24 (o : Nat) (rT rF : Int32 → z_Mem → Option (Int32 × z_Mem)) (v1 : Int32) (M : z_Mem) : Option (Int32 × z_Mem) :=
  zb2 (F_QueryReader_readOpened o rT rF v1 M) fun x10 M9 =>
  some (x10, M9)
def F_QueryReader_readFactor_J112 (o : Nat) (rT rF : Int32 → z_Mem → Option (Int32 × z_Mem)) (s0 : Int32) (s1 : Int32) (M : z_Mem) : Option (Int32 × z_Mem) :=
  zb2 (F_QueryReader_readValue o M) fun x13 M12 =>
  zb (F_QueryReader_holdingFor o s1 s0 x13 M12) fun x14 =>
  some (x14, M12)
def F_QueryReader_readFactor_J85 (o : Nat) (rT rF : Int32 → z_Mem → Option (Int32 × z_Mem)) (v2 : Int32) (v3 : Int32) (v4 : Int32) (M : z_Mem) : Option (Int32 × z_Mem) :=
  zb (F_Tokens_next o M) fun M11 =>
  if v3 = 0 then
    if v4 = 0 then
      F_QueryReader_readFactor_J112 o rT rF 0 v2 M11
    else
      F_QueryReader_readFactor_J112 o rT rF 1 v2 M11
  else
    F_QueryReader_readFactor_J112 o rT rF (-1) v2 M11
def F_QueryReader_readFactor (o : Nat) (rT rF : Int32 → z_Mem → Option (Int32 × z_Mem)) (p0 : Int32) (M : z_Mem) : Option (Int32 × z_Mem) :=
  zb (F_Tokens_isWord o 25 M) fun x1 =>
  if x1 = 0 then
    zb (F_Tokens_isSign o 40 M) fun x2 =>
    if x2 = 0 then
      zb2 (F_QueryReader_readValue o M) fun x4 M3 =>
      zb (F_Tokens_isSign o 60 M3) fun x5 =>
      zb (F_Tokens_isSign o 62 M3) fun x6 =>
      if x5 = 0 then
        if x6 = 0 then
          zb (F_Tokens_isSign o 61 M3) fun x7 =>
          if x7 = 0 then
            zb (F_Tokens_fail o 1 M3) fun M8 =>
            F_QueryReader_readFactor_J85 o rT rF x4 x5 x6 M8
          else
            F_QueryReader_readFactor_J85 o rT rF x4 x5 x6 M3
        else
          F_QueryReader_readFactor_J85 o rT rF x4 x5 x6 M3
      else
        F_QueryReader_readFactor_J85 o rT rF x4 x5 x6 M3
    else
      F_QueryReader_readFactor_J24 o rT rF p0 M
  else
    F_QueryReader_readFactor_J24 o rT rF p0 M
set_option maxHeartbeats 4000000 in
set_option maxRecDepth 100000 in
theorem m_QueryReader_readFactor {X : z_X} (hX : z_ok X) {G : z_Gr} {o : Nat} (hG : g_Sys G o) {rT rF : Int32 → z_Mem → Option (Int32 × z_Mem)} (f9 l9 fr9 lo9 : Nat) (hf9 : 12 ≤ f9) (hl9 : 300 ≤ l9) (hfr : f9 + 2 ≤ fr9) (hlo : l9 + 48 ≤ lo9) (hT : ∀ (p : Int32) (M : z_Mem) (b : Int32 × z_Mem), rT p M = some b → z_Ct X yX4_readTest cX4_readTest 4 (some .int) ({ frames := f9, cells := 0, slots := 0, locals := l9 } : Room) [.ref (o + 547), .int p] G M (fun o9 G9 M9 => G9 = G ∧ (o9, M9) = z_cim b)) (hF : ∀ (p : Int32) (M : z_Mem) (b : Int32 × z_Mem), rF p M = some b → z_Ct X yX4_readFactor cX4_readFactor 5 (some .int) ({ frames := f9, cells := 0, slots := 0, locals := l9 } : Room) [.ref (o + 547), .int p] G M (fun o9 G9 M9 => G9 = G ∧ (o9, M9) = z_cim b)) (p0 : Int32) (M : z_Mem) (b : Int32 × z_Mem) (h : F_QueryReader_readFactor o rT rF p0 M = some b) : z_Ct X yX4_readFactor cX4_readFactor 5 (some .int) ({ frames := fr9, cells := 0, slots := 0, locals := lo9 } : Room) [.ref (o + 547), .int p0] G M (fun o9 G9 M9 => G9 = G ∧ (o9, M9) = z_cim b) := by
  refine z_enter hX (by decide) (Nat.le_of_ble_eq_true rfl) h (fun F B hR => ?_)
  have J24 : ∀ (v1 : Int32) (M : z_Mem), z_K X F 5 0 0 G z_cim b 0 0 24 [(0, .ref (o + 547)), (1, .int v1)] [] M (F_QueryReader_readFactor_J24 o rT rF v1 M) := by
    intro v1 M
    unfold F_QueryReader_readFactor_J24
    refine zk_aload_n (pc := 24) B dX4_readFactor_24 0 rfl rfl ?_
    refine zk_iload_n (pc := 25) B dX4_readFactor_25 1 rfl rfl ?_
    refine zk_cim (pc := 26) (k' := 0) (n' := 0) B rfl rfl (Nat.le_of_ble_eq_true rfl) (Nat.le_of_ble_eq_true rfl) (fun b hb => zr_V B hR kV_yX4_readOpened km_4_60 kx_4 (gQueryReader_s hG) [.int v1] rfl rfl (Nat.le_of_ble_eq_true rfl) dX4_readFactor_26 (m_QueryReader_readOpened hX hG f9 l9 (f9 + 1) (l9 + 24) hf9 hl9 (Nat.le_refl _) (Nat.le_refl _) hT hF v1 M b hb) ⟨by first | omega | (dsimp only; omega), by first | omega | (dsimp only; omega)⟩ ⟨by first | omega | (dsimp only; omega), by first | omega | (dsimp only; omega)⟩) (fun x10 M9 => ?_)
    exact zk_iret (pc := 29) B dX4_readFactor_29 rfl rfl (Nat.le_of_ble_eq_true rfl) (Nat.le_of_ble_eq_true rfl) rfl
  have J112 : ∀ (s0 : Int32) (s1 : Int32) (M : z_Mem), z_K X F 5 0 0 G z_cim b 0 0 112 [(0, .ref (o + 547))] [.int s0, .int s1, .ref (o + 547)] M (F_QueryReader_readFactor_J112 o rT rF s0 s1 M) := by
    intro s0 s1 M
    unfold F_QueryReader_readFactor_J112
    refine zk_aload_n (pc := 112) B dX4_readFactor_112 0 rfl rfl ?_
    refine zk_cim (pc := 113) (k' := 0) (n' := 0) B rfl rfl (Nat.le_of_ble_eq_true rfl) (Nat.le_of_ble_eq_true rfl) (fun b hb => zr_V B hR kV_yX4_readValue km_4_63 kx_4 (gQueryReader_s hG) [] rfl rfl (Nat.le_of_ble_eq_true rfl) dX4_readFactor_113 (m_QueryReader_readValue hX hG M b hb) ⟨by first | omega | (dsimp only; omega), by first | omega | (dsimp only; omega)⟩ ⟨by first | omega | (dsimp only; omega), by first | omega | (dsimp only; omega)⟩) (fun x13 M12 => ?_)
    refine zk_cpi (pc := 116) (k' := 0) (n' := 0) B rfl rfl (Nat.le_of_ble_eq_true rfl) (Nat.le_of_ble_eq_true rfl) (fun b hb => zr_V B hR kV_yX4_holdingFor km_4_67 kx_4 (gQueryReader_s hG) [.int s1, .int s0, .int x13] rfl rfl (Nat.le_of_ble_eq_true rfl) dX4_readFactor_116 (m_QueryReader_holdingFor hX hG s1 s0 x13 M12 b hb) ⟨by first | omega | (dsimp only; omega), by first | omega | (dsimp only; omega)⟩ ⟨by first | omega | (dsimp only; omega), by first | omega | (dsimp only; omega)⟩) (fun x14 _ => ?_)
    exact zk_iret (pc := 119) B dX4_readFactor_119 rfl rfl (Nat.le_of_ble_eq_true rfl) (Nat.le_of_ble_eq_true rfl) rfl
  have J85 : ∀ (v2 : Int32) (v3 : Int32) (v4 : Int32) (M : z_Mem), z_K X F 5 0 0 G z_cim b 0 0 85 [(0, .ref (o + 547)), (2, .int v2), (3, .int v3), (4, .int v4)] [] M (F_QueryReader_readFactor_J85 o rT rF v2 v3 v4 M) := by
    intro v2 v3 v4 M
    unfold F_QueryReader_readFactor_J85
    refine zk_aload_n (pc := 85) B dX4_readFactor_85 0 rfl rfl ?_
    refine zk_getr (pc := 86) B kx_4 (gQueryReader_s hG) 0 (by decide) kf_4_9 rfl (gQueryReader_f0 hG) dX4_readFactor_86 ?_
    refine zk_cvm (pc := 89) (k' := 0) (n' := 0) B rfl rfl (Nat.le_of_ble_eq_true rfl) (Nat.le_of_ble_eq_true rfl) (fun b hb => zr_V B hR kV_yX8_next km_4_50 kx_8 (gTokens_s hG) [] rfl rfl (Nat.le_of_ble_eq_true rfl) dX4_readFactor_89 (m_Tokens_next hX hG M b hb) ⟨by first | omega | (dsimp only; omega), by first | omega | (dsimp only; omega)⟩ ⟨by first | omega | (dsimp only; omega), by first | omega | (dsimp only; omega)⟩) (fun M11 => ?_)
    refine zk_aload_n (pc := 92) B dX4_readFactor_92 0 rfl rfl ?_
    refine zk_iload_n (pc := 93) B dX4_readFactor_93 1 rfl rfl ?_
    refine zk_iload_n (pc := 94) B dX4_readFactor_94 2 rfl rfl ?_
    refine zk_if_eq (tgt := 102) (pc := 95) B dX4_readFactor_95 (by decide) (fun _ => ?_) (fun _ => ?_)
    · refine zk_iload (pc := 102) B dX4_readFactor_102 3 rfl ?_
      refine zk_if_eq (tgt := 111) (pc := 104) B dX4_readFactor_104 (by decide) (fun _ => ?_) (fun _ => ?_)
      · refine zk_iconst (v := 0) (pc := 111) B dX4_readFactor_111 (by decide) ?_
        refine zk_sub [0] rfl ?_
        exact J112 0 v2 M11
      · refine zk_iconst (v := 1) (pc := 107) B dX4_readFactor_107 (by decide) ?_
        refine zk_goto (tgt := 112) (pc := 108) B dX4_readFactor_108 (by decide) ?_
        refine zk_sub [0] rfl ?_
        exact J112 1 v2 M11
    · refine zk_iconst (v := (-1)) (pc := 98) B dX4_readFactor_98 (by decide) ?_
      refine zk_goto (tgt := 112) (pc := 99) B dX4_readFactor_99 (by decide) ?_
      refine zk_sub [0] rfl ?_
      exact J112 (-1) v2 M11
  show z_K X F 5 0 0 G z_cim b 0 0 0 [(0, .ref (o + 547)), (1, .int p0)] [] M (F_QueryReader_readFactor o rT rF p0 M)
  unfold F_QueryReader_readFactor
  refine zk_aload_n (pc := 0) B dX4_readFactor_0 0 rfl rfl ?_
  refine zk_getr (pc := 1) B kx_4 (gQueryReader_s hG) 0 (by decide) kf_4_9 rfl (gQueryReader_f0 hG) dX4_readFactor_1 ?_
  refine zk_bipush (v := 25) (pc := 4) B dX4_readFactor_4 (by decide) ?_
  refine zk_cpi (pc := 6) (k' := 0) (n' := 0) B rfl rfl (Nat.le_of_ble_eq_true rfl) (Nat.le_of_ble_eq_true rfl) (fun b hb => zr_V B hR kV_yX8_isWord km_4_46 kx_8 (gTokens_s hG) [.int 25] rfl rfl (Nat.le_of_ble_eq_true rfl) dX4_readFactor_6 (m_Tokens_isWord hX hG 25 M b hb) ⟨by first | omega | (dsimp only; omega), by first | omega | (dsimp only; omega)⟩ ⟨by first | omega | (dsimp only; omega), by first | omega | (dsimp only; omega)⟩) (fun x1 _ => ?_)
  refine zk_if_ne (tgt := 24) (pc := 9) B dX4_readFactor_9 (by decide) (fun _ => ?_) (fun _ => ?_)
  · exact J24 p0 M
  · refine zk_aload_n (pc := 12) B dX4_readFactor_12 0 rfl rfl ?_
    refine zk_getr (pc := 13) B kx_4 (gQueryReader_s hG) 0 (by decide) kf_4_9 rfl (gQueryReader_f0 hG) dX4_readFactor_13 ?_
    refine zk_bipush (v := 40) (pc := 16) B dX4_readFactor_16 (by decide) ?_
    refine zk_cpi (pc := 18) (k' := 0) (n' := 0) B rfl rfl (Nat.le_of_ble_eq_true rfl) (Nat.le_of_ble_eq_true rfl) (fun b hb => zr_V B hR kV_yX8_isSign km_4_56 kx_8 (gTokens_s hG) [.int 40] rfl rfl (Nat.le_of_ble_eq_true rfl) dX4_readFactor_18 (m_Tokens_isSign hX hG 40 M b hb) ⟨by first | omega | (dsimp only; omega), by first | omega | (dsimp only; omega)⟩ ⟨by first | omega | (dsimp only; omega), by first | omega | (dsimp only; omega)⟩) (fun x2 _ => ?_)
    refine zk_if_eq (tgt := 30) (pc := 21) B dX4_readFactor_21 (by decide) (fun _ => ?_) (fun _ => ?_)
    · refine zk_aload_n (pc := 30) B dX4_readFactor_30 0 rfl rfl ?_
      refine zk_cim (pc := 31) (k' := 0) (n' := 0) B rfl rfl (Nat.le_of_ble_eq_true rfl) (Nat.le_of_ble_eq_true rfl) (fun b hb => zr_V B hR kV_yX4_readValue km_4_63 kx_4 (gQueryReader_s hG) [] rfl rfl (Nat.le_of_ble_eq_true rfl) dX4_readFactor_31 (m_QueryReader_readValue hX hG M b hb) ⟨by first | omega | (dsimp only; omega), by first | omega | (dsimp only; omega)⟩ ⟨by first | omega | (dsimp only; omega), by first | omega | (dsimp only; omega)⟩) (fun x4 M3 => ?_)
      refine zk_istore_n (loc' := [(2, .int x4), (0, .ref (o + 547)), (1, .int p0)]) (pc := 34) B dX4_readFactor_34 rfl (by decide) rfl ?_
      refine zk_aload_n (pc := 35) B dX4_readFactor_35 1 rfl rfl ?_
      refine zk_getr (pc := 36) B kx_4 (gQueryReader_s hG) 0 (by decide) kf_4_9 rfl (gQueryReader_f0 hG) dX4_readFactor_36 ?_
      refine zk_bipush (v := 60) (pc := 39) B dX4_readFactor_39 (by decide) ?_
      refine zk_cpi (pc := 41) (k' := 0) (n' := 0) B rfl rfl (Nat.le_of_ble_eq_true rfl) (Nat.le_of_ble_eq_true rfl) (fun b hb => zr_V B hR kV_yX8_isSign km_4_56 kx_8 (gTokens_s hG) [.int 60] rfl rfl (Nat.le_of_ble_eq_true rfl) dX4_readFactor_41 (m_Tokens_isSign hX hG 60 M3 b hb) ⟨by first | omega | (dsimp only; omega), by first | omega | (dsimp only; omega)⟩ ⟨by first | omega | (dsimp only; omega), by first | omega | (dsimp only; omega)⟩) (fun x5 _ => ?_)
      refine zk_istore_n (loc' := [(3, .int x5), (2, .int x4), (0, .ref (o + 547)), (1, .int p0)]) (pc := 44) B dX4_readFactor_44 rfl (by decide) rfl ?_
      refine zk_aload_n (pc := 45) B dX4_readFactor_45 2 rfl rfl ?_
      refine zk_getr (pc := 46) B kx_4 (gQueryReader_s hG) 0 (by decide) kf_4_9 rfl (gQueryReader_f0 hG) dX4_readFactor_46 ?_
      refine zk_bipush (v := 62) (pc := 49) B dX4_readFactor_49 (by decide) ?_
      refine zk_cpi (pc := 51) (k' := 0) (n' := 0) B rfl rfl (Nat.le_of_ble_eq_true rfl) (Nat.le_of_ble_eq_true rfl) (fun b hb => zr_V B hR kV_yX8_isSign km_4_56 kx_8 (gTokens_s hG) [.int 62] rfl rfl (Nat.le_of_ble_eq_true rfl) dX4_readFactor_51 (m_Tokens_isSign hX hG 62 M3 b hb) ⟨by first | omega | (dsimp only; omega), by first | omega | (dsimp only; omega)⟩ ⟨by first | omega | (dsimp only; omega), by first | omega | (dsimp only; omega)⟩) (fun x6 _ => ?_)
      refine zk_istore (loc' := [(4, .int x6), (3, .int x5), (2, .int x4), (0, .ref (o + 547)), (1, .int p0)]) (pc := 54) B dX4_readFactor_54 (by decide) rfl ?_
      refine zk_iload_n (pc := 56) B dX4_readFactor_56 1 rfl rfl ?_
      refine zk_if_ne (tgt := 85) (pc := 57) B dX4_readFactor_57 (by decide) (fun _ => ?_) (fun _ => ?_)
      · refine zk_sub [3, 2, 1, 0] rfl ?_
        exact J85 x4 x5 x6 M3
      · refine zk_iload (pc := 60) B dX4_readFactor_60 0 rfl ?_
        refine zk_if_ne (tgt := 85) (pc := 62) B dX4_readFactor_62 (by decide) (fun _ => ?_) (fun _ => ?_)
        · refine zk_sub [3, 2, 1, 0] rfl ?_
          exact J85 x4 x5 x6 M3
        · refine zk_aload_n (pc := 65) B dX4_readFactor_65 3 rfl rfl ?_
          refine zk_getr (pc := 66) B kx_4 (gQueryReader_s hG) 0 (by decide) kf_4_9 rfl (gQueryReader_f0 hG) dX4_readFactor_66 ?_
          refine zk_bipush (v := 61) (pc := 69) B dX4_readFactor_69 (by decide) ?_
          refine zk_cpi (pc := 71) (k' := 0) (n' := 0) B rfl rfl (Nat.le_of_ble_eq_true rfl) (Nat.le_of_ble_eq_true rfl) (fun b hb => zr_V B hR kV_yX8_isSign km_4_56 kx_8 (gTokens_s hG) [.int 61] rfl rfl (Nat.le_of_ble_eq_true rfl) dX4_readFactor_71 (m_Tokens_isSign hX hG 61 M3 b hb) ⟨by first | omega | (dsimp only; omega), by first | omega | (dsimp only; omega)⟩ ⟨by first | omega | (dsimp only; omega), by first | omega | (dsimp only; omega)⟩) (fun x7 _ => ?_)
          refine zk_if_ne (tgt := 85) (pc := 74) B dX4_readFactor_74 (by decide) (fun _ => ?_) (fun _ => ?_)
          · refine zk_sub [3, 2, 1, 0] rfl ?_
            exact J85 x4 x5 x6 M3
          · refine zk_aload_n (pc := 77) B dX4_readFactor_77 3 rfl rfl ?_
            refine zk_getr (pc := 78) B kx_4 (gQueryReader_s hG) 0 (by decide) kf_4_9 rfl (gQueryReader_f0 hG) dX4_readFactor_78 ?_
            refine zk_iconst (v := 1) (pc := 81) B dX4_readFactor_81 (by decide) ?_
            refine zk_cvm (pc := 82) (k' := 0) (n' := 0) B rfl rfl (Nat.le_of_ble_eq_true rfl) (Nat.le_of_ble_eq_true rfl) (fun b hb => zr_V B hR kV_yX8_fail km_4_33 kx_8 (gTokens_s hG) [.int 1] rfl rfl (Nat.le_of_ble_eq_true rfl) dX4_readFactor_82 (m_Tokens_fail hX hG 1 M3 b hb) ⟨by first | omega | (dsimp only; omega), by first | omega | (dsimp only; omega)⟩ ⟨by first | omega | (dsimp only; omega), by first | omega | (dsimp only; omega)⟩) (fun M8 => ?_)
            refine zk_sub [3, 2, 1, 0] rfl ?_
            exact J85 x4 x5 x6 M8
    · exact J24 p0 M
def F_QueryReader_readConjunction_B8 (o : Nat) (rT rF : Int32 → z_Mem → Option (Int32 × z_Mem)) (rec8 : Int32 → Int32 → Int32 → z_Mem → Option (Int32 × z_Mem)) (v1 : Int32) (v2 : Int32) (v3 : Int32) (M : z_Mem) : Option (Int32 × z_Mem) :=
  if 200 ≤ v3 then
    some (v2, M)
  else
    zb (F_Tokens_isWord o 24 M) fun x3 =>
    if x3 = 0 then
      some (v2, M)
    else
      zb (F_Tokens_next o M) fun M4 =>
      zb2 (F_QueryReader_readFactor o rT rF v1 M4) fun x6 M5 =>
      zl ((v2 &&& x6)) fun x7 =>
      zl (v3 + 1) fun x8 =>
      rec8 v1 x7 x8 M5
def F_QueryReader_readConjunction_L8 (o : Nat) (rT rF : Int32 → z_Mem → Option (Int32 × z_Mem)) : Nat → Int32 → Int32 → Int32 → z_Mem → Option (Int32 × z_Mem)
  | 0, _, _, _, _ => none
  | n9 + 1, v1, v2, v3, M => F_QueryReader_readConjunction_B8 o rT rF (F_QueryReader_readConjunction_L8 o rT rF n9) v1 v2 v3 M
def F_QueryReader_readConjunction (o : Nat) (rT rF : Int32 → z_Mem → Option (Int32 × z_Mem)) (p0 : Int32) (M : z_Mem) : Option (Int32 × z_Mem) :=
  zb2 (F_QueryReader_readFactor o rT rF p0 M) fun x2 M1 =>
  F_QueryReader_readConjunction_L8 o rT rF 10000 p0 x2 0 M1
set_option maxHeartbeats 4000000 in
set_option maxRecDepth 100000 in
theorem m_QueryReader_readConjunction {X : z_X} (hX : z_ok X) {G : z_Gr} {o : Nat} (hG : g_Sys G o) {rT rF : Int32 → z_Mem → Option (Int32 × z_Mem)} (f9 l9 fr9 lo9 : Nat) (hf9 : 12 ≤ f9) (hl9 : 300 ≤ l9) (hfr : f9 + 3 ≤ fr9) (hlo : l9 + 72 ≤ lo9) (hT : ∀ (p : Int32) (M : z_Mem) (b : Int32 × z_Mem), rT p M = some b → z_Ct X yX4_readTest cX4_readTest 4 (some .int) ({ frames := f9, cells := 0, slots := 0, locals := l9 } : Room) [.ref (o + 547), .int p] G M (fun o9 G9 M9 => G9 = G ∧ (o9, M9) = z_cim b)) (hF : ∀ (p : Int32) (M : z_Mem) (b : Int32 × z_Mem), rF p M = some b → z_Ct X yX4_readFactor cX4_readFactor 5 (some .int) ({ frames := f9, cells := 0, slots := 0, locals := l9 } : Room) [.ref (o + 547), .int p] G M (fun o9 G9 M9 => G9 = G ∧ (o9, M9) = z_cim b)) (p0 : Int32) (M : z_Mem) (b : Int32 × z_Mem) (h : F_QueryReader_readConjunction o rT rF p0 M = some b) : z_Ct X yX4_readConjunction cX4_readConjunction 4 (some .int) ({ frames := fr9, cells := 0, slots := 0, locals := lo9 } : Room) [.ref (o + 547), .int p0] G M (fun o9 G9 M9 => G9 = G ∧ (o9, M9) = z_cim b) := by
  refine z_enter hX (by decide) (Nat.le_of_ble_eq_true rfl) h (fun F B hR => ?_)
  have L8 : ∀ (nf8 : Nat), ∀ (v1 : Int32) (v2 : Int32) (v3 : Int32) (M : z_Mem), z_K X F 4 0 0 G z_cim b 0 0 8 [(0, .ref (o + 547)), (1, .int v1), (2, .int v2), (3, .int v3)] [] M (F_QueryReader_readConjunction_L8 o rT rF nf8 v1 v2 v3 M) := by
    intro nf8
    induction nf8 with
    | zero => intro v1 v2 v3 M; exact zk_none
    | succ nf8 ih8 =>
      intro v1 v2 v3 M
      show z_K X F 4 0 0 G z_cim b 0 0 8 [(0, .ref (o + 547)), (1, .int v1), (2, .int v2), (3, .int v3)] [] M (F_QueryReader_readConjunction_B8 o rT rF (F_QueryReader_readConjunction_L8 o rT rF nf8) v1 v2 v3 M)
      unfold F_QueryReader_readConjunction_B8
      refine zk_iload_n (pc := 8) B dX4_readConjunction_8 3 rfl rfl ?_
      refine zk_sipush (v := 200) (pc := 9) B dX4_readConjunction_9 (by decide) ?_
      refine zk_icmp_ge (tgt := 48) (pc := 12) B dX4_readConjunction_12 (by decide) (fun _ => ?_) (fun _ => ?_)
      · refine zk_iload_n (pc := 48) B dX4_readConjunction_48 2 rfl rfl ?_
        exact zk_iret (pc := 49) B dX4_readConjunction_49 rfl rfl (Nat.le_of_ble_eq_true rfl) (Nat.le_of_ble_eq_true rfl) rfl
      · refine zk_aload_n (pc := 15) B dX4_readConjunction_15 0 rfl rfl ?_
        refine zk_getr (pc := 16) B kx_4 (gQueryReader_s hG) 0 (by decide) kf_4_9 rfl (gQueryReader_f0 hG) dX4_readConjunction_16 ?_
        refine zk_bipush (v := 24) (pc := 19) B dX4_readConjunction_19 (by decide) ?_
        refine zk_cpi (pc := 21) (k' := 0) (n' := 0) B rfl rfl (Nat.le_of_ble_eq_true rfl) (Nat.le_of_ble_eq_true rfl) (fun b hb => zr_V B hR kV_yX8_isWord km_4_46 kx_8 (gTokens_s hG) [.int 24] rfl rfl (Nat.le_of_ble_eq_true rfl) dX4_readConjunction_21 (m_Tokens_isWord hX hG 24 M b hb) ⟨by first | omega | (dsimp only; omega), by first | omega | (dsimp only; omega)⟩ ⟨by first | omega | (dsimp only; omega), by first | omega | (dsimp only; omega)⟩) (fun x3 _ => ?_)
        refine zk_if_eq (tgt := 48) (pc := 24) B dX4_readConjunction_24 (by decide) (fun _ => ?_) (fun _ => ?_)
        · refine zk_iload_n (pc := 48) B dX4_readConjunction_48 2 rfl rfl ?_
          exact zk_iret (pc := 49) B dX4_readConjunction_49 rfl rfl (Nat.le_of_ble_eq_true rfl) (Nat.le_of_ble_eq_true rfl) rfl
        · refine zk_aload_n (pc := 27) B dX4_readConjunction_27 0 rfl rfl ?_
          refine zk_getr (pc := 28) B kx_4 (gQueryReader_s hG) 0 (by decide) kf_4_9 rfl (gQueryReader_f0 hG) dX4_readConjunction_28 ?_
          refine zk_cvm (pc := 31) (k' := 0) (n' := 0) B rfl rfl (Nat.le_of_ble_eq_true rfl) (Nat.le_of_ble_eq_true rfl) (fun b hb => zr_V B hR kV_yX8_next km_4_50 kx_8 (gTokens_s hG) [] rfl rfl (Nat.le_of_ble_eq_true rfl) dX4_readConjunction_31 (m_Tokens_next hX hG M b hb) ⟨by first | omega | (dsimp only; omega), by first | omega | (dsimp only; omega)⟩ ⟨by first | omega | (dsimp only; omega), by first | omega | (dsimp only; omega)⟩) (fun M4 => ?_)
          refine zk_iload_n (pc := 34) B dX4_readConjunction_34 2 rfl rfl ?_
          refine zk_aload_n (pc := 35) B dX4_readConjunction_35 0 rfl rfl ?_
          refine zk_iload_n (pc := 36) B dX4_readConjunction_36 1 rfl rfl ?_
          refine zk_cim (pc := 37) (k' := 0) (n' := 0) B rfl rfl (Nat.le_of_ble_eq_true rfl) (Nat.le_of_ble_eq_true rfl) (fun b hb => zr_V B hR kV_yX4_readFactor km_4_53 kx_4 (gQueryReader_s hG) [.int v1] rfl rfl (Nat.le_of_ble_eq_true rfl) dX4_readConjunction_37 (m_QueryReader_readFactor hX hG f9 l9 (f9 + 2) (l9 + 48) hf9 hl9 (Nat.le_refl _) (Nat.le_refl _) hT hF v1 M4 b hb) ⟨by first | omega | (dsimp only; omega), by first | omega | (dsimp only; omega)⟩ ⟨by first | omega | (dsimp only; omega), by first | omega | (dsimp only; omega)⟩) (fun x6 M5 => ?_)
          refine zk_iand (pc := 40) B dX4_readConjunction_40 ?_
          refine zk_li (fun x7 => ?_)
          refine zk_istore_n (loc' := [(2, .int x7), (0, .ref (o + 547)), (1, .int v1), (3, .int v3)]) (pc := 41) B dX4_readConjunction_41 rfl (by decide) rfl ?_
          refine zk_iinc (y := 1) (lf := fun x8 => [(3, .int x8), (2, .int x7), (0, .ref (o + 547)), (1, .int v1)]) (pc := 42) B dX4_readConjunction_42 3 rfl (by decide) (by decide) (fun _ => rfl) (fun x8 => ?_)
          refine zk_goto (tgt := 8) (pc := 45) B dX4_readConjunction_45 (by decide) ?_
          refine zk_sub [2, 3, 1, 0] rfl ?_
          exact ih8 v1 x7 x8 M5
  show z_K X F 4 0 0 G z_cim b 0 0 0 [(0, .ref (o + 547)), (1, .int p0)] [] M (F_QueryReader_readConjunction o rT rF p0 M)
  unfold F_QueryReader_readConjunction
  refine zk_aload_n (pc := 0) B dX4_readConjunction_0 0 rfl rfl ?_
  refine zk_iload_n (pc := 1) B dX4_readConjunction_1 1 rfl rfl ?_
  refine zk_cim (pc := 2) (k' := 0) (n' := 0) B rfl rfl (Nat.le_of_ble_eq_true rfl) (Nat.le_of_ble_eq_true rfl) (fun b hb => zr_V B hR kV_yX4_readFactor km_4_53 kx_4 (gQueryReader_s hG) [.int p0] rfl rfl (Nat.le_of_ble_eq_true rfl) dX4_readConjunction_2 (m_QueryReader_readFactor hX hG f9 l9 (f9 + 2) (l9 + 48) hf9 hl9 (Nat.le_refl _) (Nat.le_refl _) hT hF p0 M b hb) ⟨by first | omega | (dsimp only; omega), by first | omega | (dsimp only; omega)⟩ ⟨by first | omega | (dsimp only; omega), by first | omega | (dsimp only; omega)⟩) (fun x2 M1 => ?_)
  refine zk_istore_n (loc' := [(2, .int x2), (0, .ref (o + 547)), (1, .int p0)]) (pc := 5) B dX4_readConjunction_5 rfl (by decide) rfl ?_
  refine zk_iconst (v := 0) (pc := 6) B dX4_readConjunction_6 (by decide) ?_
  refine zk_istore_n (loc' := [(3, .int 0), (2, .int x2), (0, .ref (o + 547)), (1, .int p0)]) (pc := 7) B dX4_readConjunction_7 rfl (by decide) rfl ?_
  refine zk_sub [2, 3, 1, 0] rfl ?_
  exact L8 10000 p0 x2 0 M1
def F_QueryReader_readTest_B8 (o : Nat) (rT rF : Int32 → z_Mem → Option (Int32 × z_Mem)) (rec8 : Int32 → Int32 → Int32 → z_Mem → Option (Int32 × z_Mem)) (v1 : Int32) (v2 : Int32) (v3 : Int32) (M : z_Mem) : Option (Int32 × z_Mem) :=
  if 200 ≤ v3 then
    some (v2, M)
  else
    zb (F_Tokens_isWord o 23 M) fun x3 =>
    if x3 = 0 then
      some (v2, M)
    else
      zb (F_Tokens_next o M) fun M4 =>
      zb2 (F_QueryReader_readConjunction o rT rF v1 M4) fun x6 M5 =>
      zl ((v2 ||| x6)) fun x7 =>
      zl (v3 + 1) fun x8 =>
      rec8 v1 x7 x8 M5
def F_QueryReader_readTest_L8 (o : Nat) (rT rF : Int32 → z_Mem → Option (Int32 × z_Mem)) : Nat → Int32 → Int32 → Int32 → z_Mem → Option (Int32 × z_Mem)
  | 0, _, _, _, _ => none
  | n9 + 1, v1, v2, v3, M => F_QueryReader_readTest_B8 o rT rF (F_QueryReader_readTest_L8 o rT rF n9) v1 v2 v3 M
def F_QueryReader_readTest (o : Nat) (rT rF : Int32 → z_Mem → Option (Int32 × z_Mem)) (p0 : Int32) (M : z_Mem) : Option (Int32 × z_Mem) :=
  zb2 (F_QueryReader_readConjunction o rT rF p0 M) fun x2 M1 =>
  F_QueryReader_readTest_L8 o rT rF 10000 p0 x2 0 M1
set_option maxHeartbeats 4000000 in
set_option maxRecDepth 100000 in
theorem m_QueryReader_readTest {X : z_X} (hX : z_ok X) {G : z_Gr} {o : Nat} (hG : g_Sys G o) {rT rF : Int32 → z_Mem → Option (Int32 × z_Mem)} (f9 l9 fr9 lo9 : Nat) (hf9 : 12 ≤ f9) (hl9 : 300 ≤ l9) (hfr : f9 + 4 ≤ fr9) (hlo : l9 + 96 ≤ lo9) (hT : ∀ (p : Int32) (M : z_Mem) (b : Int32 × z_Mem), rT p M = some b → z_Ct X yX4_readTest cX4_readTest 4 (some .int) ({ frames := f9, cells := 0, slots := 0, locals := l9 } : Room) [.ref (o + 547), .int p] G M (fun o9 G9 M9 => G9 = G ∧ (o9, M9) = z_cim b)) (hF : ∀ (p : Int32) (M : z_Mem) (b : Int32 × z_Mem), rF p M = some b → z_Ct X yX4_readFactor cX4_readFactor 5 (some .int) ({ frames := f9, cells := 0, slots := 0, locals := l9 } : Room) [.ref (o + 547), .int p] G M (fun o9 G9 M9 => G9 = G ∧ (o9, M9) = z_cim b)) (p0 : Int32) (M : z_Mem) (b : Int32 × z_Mem) (h : F_QueryReader_readTest o rT rF p0 M = some b) : z_Ct X yX4_readTest cX4_readTest 4 (some .int) ({ frames := fr9, cells := 0, slots := 0, locals := lo9 } : Room) [.ref (o + 547), .int p0] G M (fun o9 G9 M9 => G9 = G ∧ (o9, M9) = z_cim b) := by
  refine z_enter hX (by decide) (Nat.le_of_ble_eq_true rfl) h (fun F B hR => ?_)
  have L8 : ∀ (nf8 : Nat), ∀ (v1 : Int32) (v2 : Int32) (v3 : Int32) (M : z_Mem), z_K X F 4 0 0 G z_cim b 0 0 8 [(0, .ref (o + 547)), (1, .int v1), (2, .int v2), (3, .int v3)] [] M (F_QueryReader_readTest_L8 o rT rF nf8 v1 v2 v3 M) := by
    intro nf8
    induction nf8 with
    | zero => intro v1 v2 v3 M; exact zk_none
    | succ nf8 ih8 =>
      intro v1 v2 v3 M
      show z_K X F 4 0 0 G z_cim b 0 0 8 [(0, .ref (o + 547)), (1, .int v1), (2, .int v2), (3, .int v3)] [] M (F_QueryReader_readTest_B8 o rT rF (F_QueryReader_readTest_L8 o rT rF nf8) v1 v2 v3 M)
      unfold F_QueryReader_readTest_B8
      refine zk_iload_n (pc := 8) B dX4_readTest_8 3 rfl rfl ?_
      refine zk_sipush (v := 200) (pc := 9) B dX4_readTest_9 (by decide) ?_
      refine zk_icmp_ge (tgt := 48) (pc := 12) B dX4_readTest_12 (by decide) (fun _ => ?_) (fun _ => ?_)
      · refine zk_iload_n (pc := 48) B dX4_readTest_48 2 rfl rfl ?_
        exact zk_iret (pc := 49) B dX4_readTest_49 rfl rfl (Nat.le_of_ble_eq_true rfl) (Nat.le_of_ble_eq_true rfl) rfl
      · refine zk_aload_n (pc := 15) B dX4_readTest_15 0 rfl rfl ?_
        refine zk_getr (pc := 16) B kx_4 (gQueryReader_s hG) 0 (by decide) kf_4_9 rfl (gQueryReader_f0 hG) dX4_readTest_16 ?_
        refine zk_bipush (v := 23) (pc := 19) B dX4_readTest_19 (by decide) ?_
        refine zk_cpi (pc := 21) (k' := 0) (n' := 0) B rfl rfl (Nat.le_of_ble_eq_true rfl) (Nat.le_of_ble_eq_true rfl) (fun b hb => zr_V B hR kV_yX8_isWord km_4_46 kx_8 (gTokens_s hG) [.int 23] rfl rfl (Nat.le_of_ble_eq_true rfl) dX4_readTest_21 (m_Tokens_isWord hX hG 23 M b hb) ⟨by first | omega | (dsimp only; omega), by first | omega | (dsimp only; omega)⟩ ⟨by first | omega | (dsimp only; omega), by first | omega | (dsimp only; omega)⟩) (fun x3 _ => ?_)
        refine zk_if_eq (tgt := 48) (pc := 24) B dX4_readTest_24 (by decide) (fun _ => ?_) (fun _ => ?_)
        · refine zk_iload_n (pc := 48) B dX4_readTest_48 2 rfl rfl ?_
          exact zk_iret (pc := 49) B dX4_readTest_49 rfl rfl (Nat.le_of_ble_eq_true rfl) (Nat.le_of_ble_eq_true rfl) rfl
        · refine zk_aload_n (pc := 27) B dX4_readTest_27 0 rfl rfl ?_
          refine zk_getr (pc := 28) B kx_4 (gQueryReader_s hG) 0 (by decide) kf_4_9 rfl (gQueryReader_f0 hG) dX4_readTest_28 ?_
          refine zk_cvm (pc := 31) (k' := 0) (n' := 0) B rfl rfl (Nat.le_of_ble_eq_true rfl) (Nat.le_of_ble_eq_true rfl) (fun b hb => zr_V B hR kV_yX8_next km_4_50 kx_8 (gTokens_s hG) [] rfl rfl (Nat.le_of_ble_eq_true rfl) dX4_readTest_31 (m_Tokens_next hX hG M b hb) ⟨by first | omega | (dsimp only; omega), by first | omega | (dsimp only; omega)⟩ ⟨by first | omega | (dsimp only; omega), by first | omega | (dsimp only; omega)⟩) (fun M4 => ?_)
          refine zk_iload_n (pc := 34) B dX4_readTest_34 2 rfl rfl ?_
          refine zk_aload_n (pc := 35) B dX4_readTest_35 0 rfl rfl ?_
          refine zk_iload_n (pc := 36) B dX4_readTest_36 1 rfl rfl ?_
          refine zk_cim (pc := 37) (k' := 0) (n' := 0) B rfl rfl (Nat.le_of_ble_eq_true rfl) (Nat.le_of_ble_eq_true rfl) (fun b hb => zr_V B hR kV_yX4_readConjunction km_4_43 kx_4 (gQueryReader_s hG) [.int v1] rfl rfl (Nat.le_of_ble_eq_true rfl) dX4_readTest_37 (m_QueryReader_readConjunction hX hG f9 l9 (f9 + 3) (l9 + 72) hf9 hl9 (Nat.le_refl _) (Nat.le_refl _) hT hF v1 M4 b hb) ⟨by first | omega | (dsimp only; omega), by first | omega | (dsimp only; omega)⟩ ⟨by first | omega | (dsimp only; omega), by first | omega | (dsimp only; omega)⟩) (fun x6 M5 => ?_)
          refine zk_ior (pc := 40) B dX4_readTest_40 ?_
          refine zk_li (fun x7 => ?_)
          refine zk_istore_n (loc' := [(2, .int x7), (0, .ref (o + 547)), (1, .int v1), (3, .int v3)]) (pc := 41) B dX4_readTest_41 rfl (by decide) rfl ?_
          refine zk_iinc (y := 1) (lf := fun x8 => [(3, .int x8), (2, .int x7), (0, .ref (o + 547)), (1, .int v1)]) (pc := 42) B dX4_readTest_42 3 rfl (by decide) (by decide) (fun _ => rfl) (fun x8 => ?_)
          refine zk_goto (tgt := 8) (pc := 45) B dX4_readTest_45 (by decide) ?_
          refine zk_sub [2, 3, 1, 0] rfl ?_
          exact ih8 v1 x7 x8 M5
  show z_K X F 4 0 0 G z_cim b 0 0 0 [(0, .ref (o + 547)), (1, .int p0)] [] M (F_QueryReader_readTest o rT rF p0 M)
  unfold F_QueryReader_readTest
  refine zk_aload_n (pc := 0) B dX4_readTest_0 0 rfl rfl ?_
  refine zk_iload_n (pc := 1) B dX4_readTest_1 1 rfl rfl ?_
  refine zk_cim (pc := 2) (k' := 0) (n' := 0) B rfl rfl (Nat.le_of_ble_eq_true rfl) (Nat.le_of_ble_eq_true rfl) (fun b hb => zr_V B hR kV_yX4_readConjunction km_4_43 kx_4 (gQueryReader_s hG) [.int p0] rfl rfl (Nat.le_of_ble_eq_true rfl) dX4_readTest_2 (m_QueryReader_readConjunction hX hG f9 l9 (f9 + 3) (l9 + 72) hf9 hl9 (Nat.le_refl _) (Nat.le_refl _) hT hF p0 M b hb) ⟨by first | omega | (dsimp only; omega), by first | omega | (dsimp only; omega)⟩ ⟨by first | omega | (dsimp only; omega), by first | omega | (dsimp only; omega)⟩) (fun x2 M1 => ?_)
  refine zk_istore_n (loc' := [(2, .int x2), (0, .ref (o + 547)), (1, .int p0)]) (pc := 5) B dX4_readTest_5 rfl (by decide) rfl ?_
  refine zk_iconst (v := 0) (pc := 6) B dX4_readTest_6 (by decide) ?_
  refine zk_istore_n (loc' := [(3, .int 0), (2, .int x2), (0, .ref (o + 547)), (1, .int p0)]) (pc := 7) B dX4_readTest_7 rfl (by decide) rfl ?_
  refine zk_sub [2, 3, 1, 0] rfl ?_
  exact L8 10000 p0 x2 0 M1
def F_QR (o : Nat) : Nat → (Int32 → z_Mem → Option (Int32 × z_Mem)) × (Int32 → z_Mem → Option (Int32 × z_Mem))
  | 0 => (fun _ _ => none, fun _ _ => none)
  | d + 1 => (F_QueryReader_readTest o (F_QR o d).1 (F_QR o d).2, F_QueryReader_readFactor o (F_QR o d).1 (F_QR o d).2)
theorem m_QR {X : z_X} (hX : z_ok X) {G : z_Gr} {o : Nat} (hG : g_Sys G o) : ∀ d : Nat, (∀ (p : Int32) (M : z_Mem) (b : Int32 × z_Mem), (F_QR o d).1 p M = some b → z_Ct X yX4_readTest cX4_readTest 4 (some .int) ({ frames := 12 + 4 * d, cells := 0, slots := 0, locals := 300 + 110 * d } : Room) [.ref (o + 547), .int p] G M (fun o9 G9 M9 => G9 = G ∧ (o9, M9) = z_cim b)) ∧ (∀ (p : Int32) (M : z_Mem) (b : Int32 × z_Mem), (F_QR o d).2 p M = some b → z_Ct X yX4_readFactor cX4_readFactor 5 (some .int) ({ frames := 12 + 4 * d, cells := 0, slots := 0, locals := 300 + 110 * d } : Room) [.ref (o + 547), .int p] G M (fun o9 G9 M9 => G9 = G ∧ (o9, M9) = z_cim b)) := by
  intro d
  induction d with
  | zero => exact ⟨fun p M b h => (nomatch h), fun p M b h => (nomatch h)⟩
  | succ d ih =>
    obtain ⟨hT, hF⟩ := ih
    exact ⟨fun p M b h => m_QueryReader_readTest hX hG (12 + 4 * d) (300 + 110 * d) _ _ (by omega) (by omega) (by omega) (by omega) hT hF p M b h, fun p M b h => m_QueryReader_readFactor hX hG (12 + 4 * d) (300 + 110 * d) _ _ (by omega) (by omega) (by omega) (by omega) hT hF p M b h⟩
def F_QueryReader_readQuery_J118 (o : Nat) (v1 : Int32) (v3 : Int32) (M : z_Mem) : Option (Int32 × z_Mem) :=
  if v1 = 0 then
    some (v3, M)
  else
    some ((-1), M)
def F_QueryReader_readQuery_J110 (o : Nat) (rec51 : Int32 → Int32 → Int32 → Int32 → z_Mem → Option (Int32 × z_Mem)) (v1 : Int32) (v2 : Int32) (v4 : Int32) (s0 : Int32) (s1 : Int32) (M : z_Mem) : Option (Int32 × z_Mem) :=
  zl ((s1 + s0)) fun x7 =>
  zl (v4 + 1) fun x8 =>
  rec51 v1 v2 x7 x8 M
def F_QueryReader_readQuery_J99 (o : Nat) (rec51 : Int32 → Int32 → Int32 → Int32 → z_Mem → Option (Int32 × z_Mem)) (v1 : Int32) (v2 : Int32) (v3 : Int32) (v4 : Int32) (v5 : Int32) (M : z_Mem) : Option (Int32 × z_Mem) :=
  if v5 = 0 then
    F_QueryReader_readQuery_J110 o rec51 v1 v2 v4 0 v3 M
  else
    F_QueryReader_readQuery_J110 o rec51 v1 v2 v4 1 v3 M
def F_QueryReader_readQuery_J85 (o : Nat) (rec51 : Int32 → Int32 → Int32 → Int32 → z_Mem → Option (Int32 × z_Mem)) (v1 : Int32) (v2 : Int32) (v3 : Int32) (v4 : Int32) (s0 : Int32) (M : z_Mem) : Option (Int32 × z_Mem) :=
  if s0 = 0 then
    F_QueryReader_readQuery_J99 o rec51 v1 v2 v3 v4 s0 M
  else
    if v1 = 0 then
      F_QueryReader_readQuery_J99 o rec51 v1 v2 v3 v4 s0 M
    else
      some (v4, M)
def F_QueryReader_readQuery_B51 (o : Nat) (rec51 : Int32 → Int32 → Int32 → Int32 → z_Mem → Option (Int32 × z_Mem)) (v1 : Int32) (v2 : Int32) (v3 : Int32) (v4 : Int32) (M : z_Mem) : Option (Int32 × z_Mem) :=
  if (M.1 (o + 5) 4) ≤ v4 then
    F_QueryReader_readQuery_J118 o v1 v3 M
  else
    if 24 ≤ v4 then
      F_QueryReader_readQuery_J118 o v1 v3 M
    else
      if ((v2 >>> (v4 &&& 31)) &&& 1) = 1 then
        F_QueryReader_readQuery_J85 o rec51 v1 v2 v3 v4 1 M
      else
        F_QueryReader_readQuery_J85 o rec51 v1 v2 v3 v4 0 M
def F_QueryReader_readQuery_L51 (o : Nat) : Nat → Int32 → Int32 → Int32 → Int32 → z_Mem → Option (Int32 × z_Mem)
  | 0, _, _, _, _, _ => none
  | n9 + 1, v1, v2, v3, v4, M => F_QueryReader_readQuery_B51 o (F_QueryReader_readQuery_L51 o n9) v1 v2 v3 v4 M
def F_QueryReader_readQuery_J46 (o : Nat) (v1 : Int32) (v2 : Int32) (M : z_Mem) : Option (Int32 × z_Mem) :=
  F_QueryReader_readQuery_L51 o 10000 v1 v2 0 0 M
def F_QueryReader_readQuery_J21 (o : Nat) (s0 : Int32) (M : z_Mem) : Option (Int32 × z_Mem) :=
  zb2 ((F_QR o 8).1 0 M) fun x4 M3 =>
  zb (F_Tokens_hasMore o M3) fun x5 =>
  if x5 = 0 then
    F_QueryReader_readQuery_J46 o s0 x4 M3
  else
    zb (F_Tokens_fail o 1 M3) fun M6 =>
    F_QueryReader_readQuery_J46 o s0 x4 M6
def F_QueryReader_readQuery (o : Nat) (M : z_Mem) : Option (Int32 × z_Mem) :=
  zb2 (F_Tokens_takeWord o 21 22 M) fun x2 M1 =>
  if x2 = 22 then
    F_QueryReader_readQuery_J21 o 1 M1
  else
    F_QueryReader_readQuery_J21 o 0 M1
set_option maxHeartbeats 4000000 in
set_option maxRecDepth 100000 in
theorem m_QueryReader_readQuery {X : z_X} (hX : z_ok X) {G : z_Gr} {o : Nat} (hG : g_Sys G o) (M : z_Mem) (b : Int32 × z_Mem) (h : F_QueryReader_readQuery o M = some b) : z_Ct X yX4_readQuery cX4_readQuery 6 (some .int) ({ frames := 45, cells := 0, slots := 0, locals := 1203 } : Room) [.ref (o + 547)] G M (fun o9 G9 M9 => G9 = G ∧ (o9, M9) = z_cim b) := by
  refine z_enter hX (by decide) (Nat.le_of_ble_eq_true rfl) h (fun F B hR => ?_)
  have J118 : ∀ (v1 : Int32) (v3 : Int32) (M : z_Mem), z_K X F 6 0 0 G z_cim b 0 0 118 [(1, .int v1), (3, .int v3)] [] M (F_QueryReader_readQuery_J118 o v1 v3 M) := by
    intro v1 v3 M
    unfold F_QueryReader_readQuery_J118
    refine zk_iload_n (pc := 118) B dX4_readQuery_118 0 rfl rfl ?_
    refine zk_if_eq (tgt := 126) (pc := 119) B dX4_readQuery_119 (by decide) (fun _ => ?_) (fun _ => ?_)
    · refine zk_iload_n (pc := 126) B dX4_readQuery_126 1 rfl rfl ?_
      exact zk_iret (pc := 127) B dX4_readQuery_127 rfl rfl (Nat.le_of_ble_eq_true rfl) (Nat.le_of_ble_eq_true rfl) rfl
    · refine zk_iconst (v := (-1)) (pc := 122) B dX4_readQuery_122 (by decide) ?_
      refine zk_goto (tgt := 127) (pc := 123) B dX4_readQuery_123 (by decide) ?_
      exact zk_iret (pc := 127) B dX4_readQuery_127 rfl rfl (Nat.le_of_ble_eq_true rfl) (Nat.le_of_ble_eq_true rfl) rfl
  have L51 : ∀ (nf51 : Nat), ∀ (v1 : Int32) (v2 : Int32) (v3 : Int32) (v4 : Int32) (M : z_Mem), z_K X F 6 0 0 G z_cim b 0 0 51 [(0, .ref (o + 547)), (1, .int v1), (2, .int v2), (3, .int v3), (4, .int v4)] [] M (F_QueryReader_readQuery_L51 o nf51 v1 v2 v3 v4 M) := by
    intro nf51
    induction nf51 with
    | zero => intro v1 v2 v3 v4 M; exact zk_none
    | succ nf51 ih51 =>
      have J110 : ∀ (v1 : Int32) (v2 : Int32) (v4 : Int32) (s0 : Int32) (s1 : Int32) (M : z_Mem), z_K X F 6 0 0 G z_cim b 0 0 110 [(0, .ref (o + 547)), (1, .int v1), (2, .int v2), (4, .int v4)] [.int s0, .int s1] M (F_QueryReader_readQuery_J110 o (F_QueryReader_readQuery_L51 o nf51) v1 v2 v4 s0 s1 M) := by
        intro v1 v2 v4 s0 s1 M
        unfold F_QueryReader_readQuery_J110
        refine zk_iadd (pc := 110) B dX4_readQuery_110 ?_
        refine zk_li (fun x7 => ?_)
        refine zk_istore_n (loc' := [(3, .int x7), (0, .ref (o + 547)), (1, .int v1), (2, .int v2), (4, .int v4)]) (pc := 111) B dX4_readQuery_111 rfl (by decide) rfl ?_
        refine zk_iinc (y := 1) (lf := fun x8 => [(4, .int x8), (3, .int x7), (0, .ref (o + 547)), (1, .int v1), (2, .int v2)]) (pc := 112) B dX4_readQuery_112 4 rfl (by decide) (by decide) (fun _ => rfl) (fun x8 => ?_)
        refine zk_goto (tgt := 51) (pc := 115) B dX4_readQuery_115 (by decide) ?_
        refine zk_sub [2, 3, 4, 1, 0] rfl ?_
        exact ih51 v1 v2 x7 x8 M
      have J99 : ∀ (v1 : Int32) (v2 : Int32) (v3 : Int32) (v4 : Int32) (v5 : Int32) (M : z_Mem), z_K X F 6 0 0 G z_cim b 0 0 99 [(0, .ref (o + 547)), (1, .int v1), (2, .int v2), (3, .int v3), (4, .int v4), (5, .int v5)] [] M (F_QueryReader_readQuery_J99 o (F_QueryReader_readQuery_L51 o nf51) v1 v2 v3 v4 v5 M) := by
        intro v1 v2 v3 v4 v5 M
        unfold F_QueryReader_readQuery_J99
        refine zk_iload_n (pc := 99) B dX4_readQuery_99 3 rfl rfl ?_
        refine zk_iload (pc := 100) B dX4_readQuery_100 5 rfl ?_
        refine zk_if_eq (tgt := 109) (pc := 102) B dX4_readQuery_102 (by decide) (fun _ => ?_) (fun _ => ?_)
        · refine zk_iconst (v := 0) (pc := 109) B dX4_readQuery_109 (by decide) ?_
          refine zk_sub [0, 1, 2, 4] rfl ?_
          exact J110 v1 v2 v4 0 v3 M
        · refine zk_iconst (v := 1) (pc := 105) B dX4_readQuery_105 (by decide) ?_
          refine zk_goto (tgt := 110) (pc := 106) B dX4_readQuery_106 (by decide) ?_
          refine zk_sub [0, 1, 2, 4] rfl ?_
          exact J110 v1 v2 v4 1 v3 M
      have J85 : ∀ (v1 : Int32) (v2 : Int32) (v3 : Int32) (v4 : Int32) (s0 : Int32) (M : z_Mem), z_K X F 6 0 0 G z_cim b 0 0 85 [(0, .ref (o + 547)), (1, .int v1), (2, .int v2), (3, .int v3), (4, .int v4)] [.int s0] M (F_QueryReader_readQuery_J85 o (F_QueryReader_readQuery_L51 o nf51) v1 v2 v3 v4 s0 M) := by
        intro v1 v2 v3 v4 s0 M
        unfold F_QueryReader_readQuery_J85
        refine zk_istore (loc' := [(5, .int s0), (0, .ref (o + 547)), (1, .int v1), (2, .int v2), (3, .int v3), (4, .int v4)]) (pc := 85) B dX4_readQuery_85 (by decide) rfl ?_
        refine zk_iload (pc := 87) B dX4_readQuery_87 0 rfl ?_
        refine zk_if_eq (tgt := 99) (pc := 89) B dX4_readQuery_89 (by decide) (fun _ => ?_) (fun _ => ?_)
        · refine zk_sub [1, 2, 3, 4, 5, 0] rfl ?_
          exact J99 v1 v2 v3 v4 s0 M
        · refine zk_iload_n (pc := 92) B dX4_readQuery_92 2 rfl rfl ?_
          refine zk_if_eq (tgt := 99) (pc := 93) B dX4_readQuery_93 (by decide) (fun _ => ?_) (fun _ => ?_)
          · refine zk_sub [1, 2, 3, 4, 5, 0] rfl ?_
            exact J99 v1 v2 v3 v4 s0 M
          · refine zk_iload (pc := 96) B dX4_readQuery_96 5 rfl ?_
            exact zk_iret (pc := 98) B dX4_readQuery_98 rfl rfl (Nat.le_of_ble_eq_true rfl) (Nat.le_of_ble_eq_true rfl) rfl
      intro v1 v2 v3 v4 M
      show z_K X F 6 0 0 G z_cim b 0 0 51 [(0, .ref (o + 547)), (1, .int v1), (2, .int v2), (3, .int v3), (4, .int v4)] [] M (F_QueryReader_readQuery_B51 o (F_QueryReader_readQuery_L51 o nf51) v1 v2 v3 v4 M)
      unfold F_QueryReader_readQuery_B51
      refine zk_iload (pc := 51) B dX4_readQuery_51 4 rfl ?_
      refine zk_aload_n (pc := 53) B dX4_readQuery_53 0 rfl rfl ?_
      refine zk_getr (pc := 54) B kx_4 (gQueryReader_s hG) 1 (by decide) kf_4_15 rfl (gQueryReader_f1 hG) dX4_readQuery_54 ?_
      refine zk_geti (pc := 57) B kx_0 (gDesk_s (gQueryReader_t1 hG)) 4 (by decide) kf_4_37 rfl dX4_readQuery_57 ?_
      refine zk_icmp_ge (tgt := 118) (pc := 60) B dX4_readQuery_60 (by decide) (fun _ => ?_) (fun _ => ?_)
      · refine zk_sub [1, 3] rfl ?_
        exact J118 v1 v3 M
      · refine zk_iload (pc := 63) B dX4_readQuery_63 4 rfl ?_
        refine zk_bipush (v := 24) (pc := 65) B dX4_readQuery_65 (by decide) ?_
        refine zk_icmp_ge (tgt := 118) (pc := 67) B dX4_readQuery_67 (by decide) (fun _ => ?_) (fun _ => ?_)
        · refine zk_sub [1, 3] rfl ?_
          exact J118 v1 v3 M
        · refine zk_iload_n (pc := 70) B dX4_readQuery_70 2 rfl rfl ?_
          refine zk_iload (pc := 71) B dX4_readQuery_71 4 rfl ?_
          refine zk_ishr (pc := 73) B dX4_readQuery_73 ?_
          refine zk_iconst (v := 1) (pc := 74) B dX4_readQuery_74 (by decide) ?_
          refine zk_iand (pc := 75) B dX4_readQuery_75 ?_
          refine zk_iconst (v := 1) (pc := 76) B dX4_readQuery_76 (by decide) ?_
          refine zk_icmp_ne (tgt := 84) (pc := 77) B dX4_readQuery_77 (by decide) (fun _ => ?_) (fun _ => ?_)
          · refine zk_iconst (v := 0) (pc := 84) B dX4_readQuery_84 (by decide) ?_
            exact J85 v1 v2 v3 v4 0 M
          · refine zk_iconst (v := 1) (pc := 80) B dX4_readQuery_80 (by decide) ?_
            refine zk_goto (tgt := 85) (pc := 81) B dX4_readQuery_81 (by decide) ?_
            exact J85 v1 v2 v3 v4 1 M
  have J46 : ∀ (v1 : Int32) (v2 : Int32) (M : z_Mem), z_K X F 6 0 0 G z_cim b 0 0 46 [(0, .ref (o + 547)), (1, .int v1), (2, .int v2)] [] M (F_QueryReader_readQuery_J46 o v1 v2 M) := by
    intro v1 v2 M
    unfold F_QueryReader_readQuery_J46
    refine zk_iconst (v := 0) (pc := 46) B dX4_readQuery_46 (by decide) ?_
    refine zk_istore_n (loc' := [(3, .int 0), (0, .ref (o + 547)), (1, .int v1), (2, .int v2)]) (pc := 47) B dX4_readQuery_47 rfl (by decide) rfl ?_
    refine zk_iconst (v := 0) (pc := 48) B dX4_readQuery_48 (by decide) ?_
    refine zk_istore (loc' := [(4, .int 0), (3, .int 0), (0, .ref (o + 547)), (1, .int v1), (2, .int v2)]) (pc := 49) B dX4_readQuery_49 (by decide) rfl ?_
    refine zk_sub [2, 3, 4, 1, 0] rfl ?_
    exact L51 10000 v1 v2 0 0 M
  have J21 : ∀ (s0 : Int32) (M : z_Mem), z_K X F 6 0 0 G z_cim b 0 0 21 [(0, .ref (o + 547))] [.int s0] M (F_QueryReader_readQuery_J21 o s0 M) := by
    intro s0 M
    unfold F_QueryReader_readQuery_J21
    refine zk_istore_n (loc' := [(1, .int s0), (0, .ref (o + 547))]) (pc := 21) B dX4_readQuery_21 rfl (by decide) rfl ?_
    refine zk_aload_n (pc := 22) B dX4_readQuery_22 1 rfl rfl ?_
    refine zk_iconst (v := 0) (pc := 23) B dX4_readQuery_23 (by decide) ?_
    refine zk_cim (pc := 24) (k' := 0) (n' := 0) B rfl rfl (Nat.le_of_ble_eq_true rfl) (Nat.le_of_ble_eq_true rfl) (fun b hb => zr_V B hR kV_yX4_readTest km_4_25 kx_4 (gQueryReader_s hG) [.int 0] rfl rfl (Nat.le_of_ble_eq_true rfl) dX4_readQuery_24 ((m_QR hX hG 8).1 0 M b hb) ⟨Nat.le_of_ble_eq_true rfl, Nat.le_of_ble_eq_true rfl⟩ ⟨Nat.le_of_ble_eq_true rfl, Nat.le_of_ble_eq_true rfl⟩) (fun x4 M3 => ?_)
    refine zk_istore_n (loc' := [(2, .int x4), (1, .int s0), (0, .ref (o + 547))]) (pc := 27) B dX4_readQuery_27 rfl (by decide) rfl ?_
    refine zk_aload_n (pc := 28) B dX4_readQuery_28 2 rfl rfl ?_
    refine zk_getr (pc := 29) B kx_4 (gQueryReader_s hG) 0 (by decide) kf_4_9 rfl (gQueryReader_f0 hG) dX4_readQuery_29 ?_
    refine zk_cpi (pc := 32) (k' := 0) (n' := 0) B rfl rfl (Nat.le_of_ble_eq_true rfl) (Nat.le_of_ble_eq_true rfl) (fun b hb => zr_V B hR kV_yX8_hasMore km_4_29 kx_8 (gTokens_s hG) [] rfl rfl (Nat.le_of_ble_eq_true rfl) dX4_readQuery_32 (m_Tokens_hasMore hX hG M3 b hb) ⟨Nat.le_of_ble_eq_true rfl, Nat.le_of_ble_eq_true rfl⟩ ⟨Nat.le_of_ble_eq_true rfl, Nat.le_of_ble_eq_true rfl⟩) (fun x5 _ => ?_)
    refine zk_if_eq (tgt := 46) (pc := 35) B dX4_readQuery_35 (by decide) (fun _ => ?_) (fun _ => ?_)
    · refine zk_sub [2, 1, 0] rfl ?_
      exact J46 s0 x4 M3
    · refine zk_aload_n (pc := 38) B dX4_readQuery_38 2 rfl rfl ?_
      refine zk_getr (pc := 39) B kx_4 (gQueryReader_s hG) 0 (by decide) kf_4_9 rfl (gQueryReader_f0 hG) dX4_readQuery_39 ?_
      refine zk_iconst (v := 1) (pc := 42) B dX4_readQuery_42 (by decide) ?_
      refine zk_cvm (pc := 43) (k' := 0) (n' := 0) B rfl rfl (Nat.le_of_ble_eq_true rfl) (Nat.le_of_ble_eq_true rfl) (fun b hb => zr_V B hR kV_yX8_fail km_4_33 kx_8 (gTokens_s hG) [.int 1] rfl rfl (Nat.le_of_ble_eq_true rfl) dX4_readQuery_43 (m_Tokens_fail hX hG 1 M3 b hb) ⟨Nat.le_of_ble_eq_true rfl, Nat.le_of_ble_eq_true rfl⟩ ⟨Nat.le_of_ble_eq_true rfl, Nat.le_of_ble_eq_true rfl⟩) (fun M6 => ?_)
      refine zk_sub [2, 1, 0] rfl ?_
      exact J46 s0 x4 M6
  show z_K X F 6 0 0 G z_cim b 0 0 0 [(0, .ref (o + 547))] [] M (F_QueryReader_readQuery o M)
  unfold F_QueryReader_readQuery
  refine zk_aload_n (pc := 0) B dX4_readQuery_0 0 rfl rfl ?_
  refine zk_getr (pc := 1) B kx_4 (gQueryReader_s hG) 0 (by decide) kf_4_9 rfl (gQueryReader_f0 hG) dX4_readQuery_1 ?_
  refine zk_bipush (v := 21) (pc := 4) B dX4_readQuery_4 (by decide) ?_
  refine zk_bipush (v := 22) (pc := 6) B dX4_readQuery_6 (by decide) ?_
  refine zk_cim (pc := 8) (k' := 0) (n' := 0) B rfl rfl (Nat.le_of_ble_eq_true rfl) (Nat.le_of_ble_eq_true rfl) (fun b hb => zr_V B hR kV_yX8_takeWord km_4_21 kx_8 (gTokens_s hG) [.int 21, .int 22] rfl rfl (Nat.le_of_ble_eq_true rfl) dX4_readQuery_8 (m_Tokens_takeWord hX hG 21 22 M b hb) ⟨Nat.le_of_ble_eq_true rfl, Nat.le_of_ble_eq_true rfl⟩ ⟨Nat.le_of_ble_eq_true rfl, Nat.le_of_ble_eq_true rfl⟩) (fun x2 M1 => ?_)
  refine zk_bipush (v := 22) (pc := 11) B dX4_readQuery_11 (by decide) ?_
  refine zk_icmp_ne (tgt := 20) (pc := 13) B dX4_readQuery_13 (by decide) (fun _ => ?_) (fun _ => ?_)
  · refine zk_iconst (v := 0) (pc := 20) B dX4_readQuery_20 (by decide) ?_
    exact J21 0 M1
  · refine zk_iconst (v := 1) (pc := 16) B dX4_readQuery_16 (by decide) ?_
    refine zk_goto (tgt := 21) (pc := 17) B dX4_readQuery_17 (by decide) ?_
    exact J21 1 M1
def F_Sys_query_J19 (o : Nat) (M : z_Mem) : Option (Except Nat Int32 × z_Mem) :=
  some (.error 2, M)
def F_Sys_query (o : Nat) (p0 : Int32) (M : z_Mem) : Option (Except Nat Int32 × z_Mem) :=
  if p0 < 0 then
    F_Sys_query_J19 o M
  else
    if 200 < p0 then
      F_Sys_query_J19 o M
    else
      if p0 ≤ (M.1 o 1) then
        zl (z_wI M o 1 0) fun M1 =>
        zb (F_Tokens_begin o p0 M1) fun M2 =>
        zb2 (F_QueryReader_readQuery o M2) fun x4 M3 =>
        zl (z_wI M3 o 2 (M3.1 (o + 499) 1)) fun M5 =>
        if (M5.1 (o + 499) 0) = 0 then
          some (.ok x4, M5)
        else
          some (.ok ((-1000000000) - (M5.1 (o + 499) 0)), M5)
      else
        F_Sys_query_J19 o M
set_option maxHeartbeats 4000000 in
set_option maxRecDepth 100000 in
theorem m_Sys_query {X : z_X} (hX : z_ok X) {G : z_Gr} {o : Nat} (hG : g_Sys G o) (p0 : Int32) (M : z_Mem) (b : Except Nat Int32 × z_Mem) (h : F_Sys_query o p0 M = some b) : z_Ct X yX11_query cX11_query 3 (some .int) ({ frames := 46, cells := 1, slots := 6, locals := 1228 } : Room) [.ref o, .int p0] G M (fun o9 G9 M9 => G9 = G ∧ (o9, M9) = z_xim b) := by
  refine z_enter hX (by decide) (Nat.le_of_ble_eq_true rfl) h (fun F B hR => ?_)
  have J19 : ∀  (M : z_Mem), z_K X F 3 1 6 G z_xim b 0 0 19 [] [] M (F_Sys_query_J19 o M) := by
    intro  M
    unfold F_Sys_query_J19
    exact zk_throw2 (pc := 19) B hR 117 119 (text := "no such length") kk_11_117 ki_e2 (by decide +kernel) dX11_query_19 dX11_query_22 dX11_query_23 dX11_query_25 dX11_query_28 (Nat.le_of_ble_eq_true rfl) (Nat.le_of_ble_eq_true rfl) (Nat.le_of_ble_eq_true rfl) (Nat.le_of_ble_eq_true rfl) (Nat.le_of_ble_eq_true rfl) (Nat.le_of_ble_eq_true rfl) rfl
  show z_K X F 3 1 6 G z_xim b 0 0 0 [(0, .ref o), (1, .int p0)] [] M (F_Sys_query o p0 M)
  unfold F_Sys_query
  refine zk_iload_n (pc := 0) B dX11_query_0 1 rfl rfl ?_
  refine zk_if_lt (tgt := 19) (pc := 1) B dX11_query_1 (by decide) (fun _ => ?_) (fun _ => ?_)
  · refine zk_sub [] rfl ?_
    exact J19 M
  · refine zk_iload_n (pc := 4) B dX11_query_4 1 rfl rfl ?_
    refine zk_sipush (v := 200) (pc := 5) B dX11_query_5 (by decide) ?_
    refine zk_icmp_gt (tgt := 19) (pc := 8) B dX11_query_8 (by decide) (fun _ => ?_) (fun _ => ?_)
    · refine zk_sub [] rfl ?_
      exact J19 M
    · refine zk_iload_n (pc := 11) B dX11_query_11 1 rfl rfl ?_
      refine zk_aload_n (pc := 12) B dX11_query_12 0 rfl rfl ?_
      refine zk_geti (pc := 13) B kx_11 (gSys_s hG) 1 (by decide) kf_11_13 rfl dX11_query_13 ?_
      refine zk_icmp_le (tgt := 29) (pc := 16) B dX11_query_16 (by decide) (fun _ => ?_) (fun _ => ?_)
      · refine zk_aload_n (pc := 29) B dX11_query_29 0 rfl rfl ?_
        refine zk_iconst (v := 0) (pc := 30) B dX11_query_30 (by decide) ?_
        refine zk_puti (pc := 31) B kx_11 (gSys_s hG) 1 (by decide) kf_11_13 rfl rfl rfl rfl dX11_query_31 ?_
        refine zk_lm (fun M1 => ?_)
        refine zk_aload_n (pc := 34) B dX11_query_34 0 rfl rfl ?_
        refine zk_getr (pc := 35) B kx_11 (gSys_s hG) 13 (by decide) kf_11_86 rfl (gSys_f13 hG) dX11_query_35 ?_
        refine zk_iload_n (pc := 38) B dX11_query_38 1 rfl rfl ?_
        refine zk_cvm (pc := 39) (k' := 0) (n' := 0) B rfl rfl (Nat.le_of_ble_eq_true rfl) (Nat.le_of_ble_eq_true rfl) (fun b hb => zr_V B hR kV_yX8_begin km_11_124 kx_8 (gTokens_s hG) [.int p0] rfl rfl (Nat.le_of_ble_eq_true rfl) dX11_query_39 (m_Tokens_begin hX hG p0 M1 b hb) ⟨Nat.le_of_ble_eq_true rfl, Nat.le_of_ble_eq_true rfl⟩ ⟨Nat.le_of_ble_eq_true rfl, Nat.le_of_ble_eq_true rfl⟩) (fun M2 => ?_)
        refine zk_aload_n (pc := 42) B dX11_query_42 0 rfl rfl ?_
        refine zk_getr (pc := 43) B kx_11 (gSys_s hG) 15 (by decide) kf_11_104 rfl (gSys_f15 hG) dX11_query_43 ?_
        refine zk_cim (pc := 46) (k' := 0) (n' := 0) B rfl rfl (Nat.le_of_ble_eq_true rfl) (Nat.le_of_ble_eq_true rfl) (fun b hb => zr_V B hR kV_yX4_readQuery km_11_147 kx_4 (gQueryReader_s hG) [] rfl rfl (Nat.le_of_ble_eq_true rfl) dX11_query_46 (m_QueryReader_readQuery hX hG M2 b hb) ⟨Nat.le_of_ble_eq_true rfl, Nat.le_of_ble_eq_true rfl⟩ ⟨Nat.le_of_ble_eq_true rfl, Nat.le_of_ble_eq_true rfl⟩) (fun x4 M3 => ?_)
        refine zk_istore_n (loc' := [(2, .int x4), (0, .ref o), (1, .int p0)]) (pc := 49) B dX11_query_49 rfl (by decide) rfl ?_
        refine zk_aload_n (pc := 50) B dX11_query_50 1 rfl rfl ?_
        refine zk_aload_n (pc := 51) B dX11_query_51 1 rfl rfl ?_
        refine zk_getr (pc := 52) B kx_11 (gSys_s hG) 13 (by decide) kf_11_86 rfl (gSys_f13 hG) dX11_query_52 ?_
        refine zk_geti (pc := 55) B kx_8 (gTokens_s hG) 1 (by decide) kf_11_130 rfl dX11_query_55 ?_
        refine zk_puti (pc := 58) B kx_11 (gSys_s hG) 2 (by decide) kf_11_17 rfl rfl rfl rfl dX11_query_58 ?_
        refine zk_lm (fun M5 => ?_)
        refine zk_aload_n (pc := 61) B dX11_query_61 1 rfl rfl ?_
        refine zk_getr (pc := 62) B kx_11 (gSys_s hG) 13 (by decide) kf_11_86 rfl (gSys_f13 hG) dX11_query_62 ?_
        refine zk_geti (pc := 65) B kx_8 (gTokens_s hG) 0 (by decide) kf_11_131 rfl dX11_query_65 ?_
        refine zk_if_eq (tgt := 84) (pc := 68) B dX11_query_68 (by decide) (fun _ => ?_) (fun _ => ?_)
        · refine zk_iload_n (pc := 84) B dX11_query_84 0 rfl rfl ?_
          exact zk_iret (pc := 85) B dX11_query_85 rfl rfl (Nat.le_of_ble_eq_true rfl) (Nat.le_of_ble_eq_true rfl) rfl
        · refine zk_ldc (pc := 71) B kc_11_151 dX11_query_71 ?_
          refine zk_aload_n (pc := 73) B dX11_query_73 1 rfl rfl ?_
          refine zk_getr (pc := 74) B kx_11 (gSys_s hG) 13 (by decide) kf_11_86 rfl (gSys_f13 hG) dX11_query_74 ?_
          refine zk_geti (pc := 77) B kx_8 (gTokens_s hG) 0 (by decide) kf_11_131 rfl dX11_query_77 ?_
          refine zk_isub (pc := 80) B dX11_query_80 ?_
          refine zk_goto (tgt := 85) (pc := 81) B dX11_query_81 (by decide) ?_
          exact zk_iret (pc := 85) B dX11_query_85 rfl rfl (Nat.le_of_ble_eq_true rfl) (Nat.le_of_ble_eq_true rfl) rfl
      · refine zk_sub [] rfl ?_
        exact J19 M
