/-! ===== walks of the law (by program) ===== -/
set_option maxHeartbeats 4000000 in
set_option maxRecDepth 100000 in
theorem m_Law_writes {X : z_X} (hX : z_ok X) {G : z_Gr} {a : Nat} (ha : g_Law G a) {w0 : Nat} (hw0 : w0 < 14) (M : z_Mem) (b : z_Mem) (h : F_Law_writes a w0 M = some b) : z_Ct X yL_writes cL_writes 3 none ({ frames := 4, cells := 0, slots := 0, locals := 85 } : Room) [.ref a, .ref (z_sa X w0)] G M (fun o9 G9 M9 => G9 = G ∧ (o9, M9) = z_cvm b) := by
  refine z_enter hX (by decide) (Nat.le_of_ble_eq_true rfl) h (fun F B hR => ?_)
  have L2 : ∀ (nf2 : Nat), ∀ (v2 : Int32) (M : z_Mem), z_K X F 3 0 0 G z_cvm b 0 0 2 [(0, .ref a), (1, .ref (z_sa X w0)), (2, .int v2)] [] M (F_Law_writes_L2 a w0 nf2 v2 M) := by
    intro nf2
    induction nf2 with
    | zero => intro v2 M; exact zk_none
    | succ nf2 ih2 =>
      intro v2 M
      show z_K X F 3 0 0 G z_cvm b 0 0 2 [(0, .ref a), (1, .ref (z_sa X w0)), (2, .int v2)] [] M (F_Law_writes_B2 a w0 (F_Law_writes_L2 a w0 nf2) v2 M)
      unfold F_Law_writes_B2
      refine zk_iload_n (pc := 2) B dL_writes_2 2 rfl rfl ?_
      refine zk_aload_n (pc := 3) B dL_writes_3 1 rfl rfl ?_
      refine zk_len (pc := 4) B hR hw0 ks_l1 dL_writes_4 (Nat.le_of_ble_eq_true rfl) ⟨Nat.le_of_ble_eq_true rfl, Nat.le_of_ble_eq_true rfl, Nat.le_of_ble_eq_true rfl, Nat.le_of_ble_eq_true rfl, Nat.le_of_ble_eq_true rfl, Nat.le_of_ble_eq_true rfl⟩ ?_
      refine zk_icmp_ge (tgt := 40) (pc := 7) B dL_writes_7 (by decide) (fun _ => ?_) (fun _ => ?_)
      · exact zk_vret (pc := 40) B dL_writes_40 rfl (Nat.le_of_ble_eq_true rfl) (Nat.le_of_ble_eq_true rfl) rfl
      · refine zk_aload_n (pc := 10) B dL_writes_10 0 rfl rfl ?_
        refine zk_getr (pc := 11) B kx_12 (gLaw_s ha) 0 (by decide) kf_L_7 rfl (gLaw_f0 ha) dL_writes_11 ?_
        refine zk_aload_n (pc := 14) B dL_writes_14 0 rfl rfl ?_
        refine zk_geti (pc := 15) B kx_12 (gLaw_s ha) 1 (by decide) kf_L_19 rfl dL_writes_15 ?_
        refine zk_aload_n (pc := 18) B dL_writes_18 1 rfl rfl ?_
        refine zk_iload_n (pc := 19) B dL_writes_19 2 rfl rfl ?_
        refine zk_chr (pc := 20) B hR hw0 ks_l3 dL_writes_20 (Nat.le_of_ble_eq_true rfl) ⟨Nat.le_of_ble_eq_true rfl, Nat.le_of_ble_eq_true rfl, Nat.le_of_ble_eq_true rfl, Nat.le_of_ble_eq_true rfl, Nat.le_of_ble_eq_true rfl, Nat.le_of_ble_eq_true rfl⟩ ?_
        refine zk_iast (pc := 23) B (gLaw_t0 ha) dL_writes_23 ?_
        refine zk_lm (fun M1 => ?_)
        refine zk_aload_n (pc := 24) B dL_writes_24 0 rfl rfl ?_
        refine zk_dup (pc := 25) B dL_writes_25 rfl ?_
        refine zk_geti (pc := 26) B kx_12 (gLaw_s ha) 1 (by decide) kf_L_19 rfl dL_writes_26 ?_
        refine zk_iconst (v := 1) (pc := 29) B dL_writes_29 (by decide) ?_
        refine zk_iadd (pc := 30) B dL_writes_30 ?_
        refine zk_puti (pc := 31) B kx_12 (gLaw_s ha) 1 (by decide) kf_L_19 rfl rfl rfl rfl dL_writes_31 ?_
        refine zk_lm (fun M2 => ?_)
        refine zk_iinc (y := 1) (lf := fun x3 => [(2, .int x3), (0, .ref a), (1, .ref (z_sa X w0))]) (pc := 34) B dL_writes_34 2 rfl (by decide) (by decide) (fun _ => rfl) (fun x3 => ?_)
        refine zk_goto (tgt := 2) (pc := 37) B dL_writes_37 (by decide) ?_
        refine zk_sub [1, 2, 0] rfl ?_
        exact ih2 x3 M2
  show z_K X F 3 0 0 G z_cvm b 0 0 0 [(0, .ref a), (1, .ref (z_sa X w0))] [] M (F_Law_writes a w0 M)
  unfold F_Law_writes
  refine zk_iconst (v := 0) (pc := 0) B dL_writes_0 (by decide) ?_
  refine zk_istore_n (loc' := [(2, .int 0), (0, .ref a), (1, .ref (z_sa X w0))]) (pc := 1) B dL_writes_1 rfl (by decide) rfl ?_
  refine zk_sub [1, 2, 0] rfl ?_
  exact L2 10000 0 M
set_option maxHeartbeats 4000000 in
set_option maxRecDepth 100000 in
theorem m_Law_number {X : z_X} (hX : z_ok X) {G : z_Gr} {a : Nat} (ha : g_Law G a) (p0 : Int32) (M : z_Mem) (b : z_Mem) (h : F_Law_number a p0 M = some b) : z_Ct X yL_number cL_number 3 none ({ frames := 0, cells := 0, slots := 0, locals := 0 } : Room) [.ref a, .int p0] G M (fun o9 G9 M9 => G9 = G ∧ (o9, M9) = z_cvm b) := by
  refine z_enter hX (by decide) (Nat.le_of_ble_eq_true rfl) h (fun F B hR => ?_)
  have L18 : ∀ (nf18 : Nat), ∀ (v1 : Int32) (v2 : Int32) (M : z_Mem), z_K X F 3 0 0 G z_cvm b 0 0 18 [(0, .ref a), (1, .int v1), (2, .int v2)] [] M (F_Law_number_L18 a nf18 v1 v2 M) := by
    intro nf18
    induction nf18 with
    | zero => intro v1 v2 M; exact zk_none
    | succ nf18 ih18 =>
      intro v1 v2 M
      show z_K X F 3 0 0 G z_cvm b 0 0 18 [(0, .ref a), (1, .int v1), (2, .int v2)] [] M (F_Law_number_B18 a (F_Law_number_L18 a nf18) v1 v2 M)
      unfold F_Law_number_B18
      refine zk_iload_n (pc := 18) B dL_number_18 2 rfl rfl ?_
      refine zk_if_le (tgt := 58) (pc := 19) B dL_number_19 (by decide) (fun _ => ?_) (fun _ => ?_)
      · exact zk_vret (pc := 58) B dL_number_58 rfl (Nat.le_of_ble_eq_true rfl) (Nat.le_of_ble_eq_true rfl) rfl
      · refine zk_aload_n (pc := 22) B dL_number_22 0 rfl rfl ?_
        refine zk_getr (pc := 23) B kx_12 (gLaw_s ha) 0 (by decide) kf_L_7 rfl (gLaw_f0 ha) dL_number_23 ?_
        refine zk_aload_n (pc := 26) B dL_number_26 0 rfl rfl ?_
        refine zk_geti (pc := 27) B kx_12 (gLaw_s ha) 1 (by decide) kf_L_19 rfl dL_number_27 ?_
        refine zk_bipush (v := 48) (pc := 30) B dL_number_30 (by decide) ?_
        refine zk_iload_n (pc := 32) B dL_number_32 1 rfl rfl ?_
        refine zk_iload_n (pc := 33) B dL_number_33 2 rfl rfl ?_
        refine zk_chk (fun h6 => zk_idiv (pc := 34) B dL_number_34 h6 ?_)
        refine zk_bipush (v := 10) (pc := 35) B dL_number_35 (by decide) ?_
        refine zk_irem (pc := 37) B dL_number_37 (by decide) ?_
        refine zk_iadd (pc := 38) B dL_number_38 ?_
        refine zk_iast (pc := 39) B (gLaw_t0 ha) dL_number_39 ?_
        refine zk_lm (fun M3 => ?_)
        refine zk_aload_n (pc := 40) B dL_number_40 0 rfl rfl ?_
        refine zk_dup (pc := 41) B dL_number_41 rfl ?_
        refine zk_geti (pc := 42) B kx_12 (gLaw_s ha) 1 (by decide) kf_L_19 rfl dL_number_42 ?_
        refine zk_iconst (v := 1) (pc := 45) B dL_number_45 (by decide) ?_
        refine zk_iadd (pc := 46) B dL_number_46 ?_
        refine zk_puti (pc := 47) B kx_12 (gLaw_s ha) 1 (by decide) kf_L_19 rfl rfl rfl rfl dL_number_47 ?_
        refine zk_lm (fun M4 => ?_)
        refine zk_iload_n (pc := 50) B dL_number_50 2 rfl rfl ?_
        refine zk_bipush (v := 10) (pc := 51) B dL_number_51 (by decide) ?_
        refine zk_idiv (pc := 53) B dL_number_53 (by decide) ?_
        refine zk_li (fun x5 => ?_)
        refine zk_istore_n (loc' := [(2, .int x5), (0, .ref a), (1, .int v1)]) (pc := 54) B dL_number_54 rfl (by decide) rfl ?_
        refine zk_goto (tgt := 18) (pc := 55) B dL_number_55 (by decide) ?_
        refine zk_sub [1, 2, 0] rfl ?_
        exact ih18 v1 x5 M4
  have L2 : ∀ (nf2 : Nat), ∀ (v1 : Int32) (v2 : Int32) (M : z_Mem), z_K X F 3 0 0 G z_cvm b 0 0 2 [(0, .ref a), (1, .int v1), (2, .int v2)] [] M (F_Law_number_L2 a nf2 v1 v2 M) := by
    intro nf2
    induction nf2 with
    | zero => intro v1 v2 M; exact zk_none
    | succ nf2 ih2 =>
      intro v1 v2 M
      show z_K X F 3 0 0 G z_cvm b 0 0 2 [(0, .ref a), (1, .int v1), (2, .int v2)] [] M (F_Law_number_B2 a (F_Law_number_L2 a nf2) v1 v2 M)
      unfold F_Law_number_B2
      refine zk_iload_n (pc := 2) B dL_number_2 1 rfl rfl ?_
      refine zk_iload_n (pc := 3) B dL_number_3 2 rfl rfl ?_
      refine zk_chk (fun h2 => zk_idiv (pc := 4) B dL_number_4 h2 ?_)
      refine zk_bipush (v := 9) (pc := 5) B dL_number_5 (by decide) ?_
      refine zk_icmp_le (tgt := 18) (pc := 7) B dL_number_7 (by decide) (fun _ => ?_) (fun _ => ?_)
      · exact L18 10000 v1 v2 M
      · refine zk_iload_n (pc := 10) B dL_number_10 2 rfl rfl ?_
        refine zk_bipush (v := 10) (pc := 11) B dL_number_11 (by decide) ?_
        refine zk_imul (pc := 13) B dL_number_13 ?_
        refine zk_li (fun x1 => ?_)
        refine zk_istore_n (loc' := [(2, .int x1), (0, .ref a), (1, .int v1)]) (pc := 14) B dL_number_14 rfl (by decide) rfl ?_
        refine zk_goto (tgt := 2) (pc := 15) B dL_number_15 (by decide) ?_
        refine zk_sub [1, 2, 0] rfl ?_
        exact ih2 v1 x1 M
  show z_K X F 3 0 0 G z_cvm b 0 0 0 [(0, .ref a), (1, .int p0)] [] M (F_Law_number a p0 M)
  unfold F_Law_number
  refine zk_iconst (v := 1) (pc := 0) B dL_number_0 (by decide) ?_
  refine zk_istore_n (loc' := [(2, .int 1), (0, .ref a), (1, .int p0)]) (pc := 1) B dL_number_1 rfl (by decide) rfl ?_
  refine zk_sub [1, 2, 0] rfl ?_
  exact L2 10000 p0 1 M
set_option maxHeartbeats 4000000 in
set_option maxRecDepth 100000 in
theorem m_Law_cell {X : z_X} (hX : z_ok X) {G : z_Gr} {b9 L9 : Nat} {S9 : Nat → Int32} (hx9 : va_X b9 L9 S9 X.2.1 X.2.1.heap) (hb9 : b9 < z_o X) (p1 : Int32) (M : z_Mem) (b : Int32) (h : F_Law_cell L9 S9 p1 M = some b) : z_Ct X yL_cell cL_cell 2 (some .int) ({ frames := 0, cells := 0, slots := 0, locals := 0 } : Room) [.ref b9, .int p1] G M (fun o9 G9 M9 => G9 = G ∧ (o9, M9) = (z_ci M) b) := by
  refine z_enter hX (by decide) (Nat.le_of_ble_eq_true rfl) h (fun F B hR => ?_)
  show z_K X F 2 0 0 G (z_ci M) b 0 0 0 [(0, .ref b9), (1, .int p1)] [] M (F_Law_cell L9 S9 p1 M)
  unfold F_Law_cell
  refine zk_iload_n (pc := 0) B dL_cell_0 1 rfl rfl ?_
  refine zk_aload_n (pc := 1) B dL_cell_1 0 rfl rfl ?_
  refine zk_slen (pc := 2) B hx9 hb9 dL_cell_2 ?_
  refine zk_icmp_ge (tgt := 15) (pc := 3) B dL_cell_3 (by decide) (fun _ => ?_) (fun _ => ?_)
  · refine zk_iconst (v := 0) (pc := 15) B dL_cell_15 (by decide) ?_
    exact zk_iret (pc := 16) B dL_cell_16 rfl rfl (Nat.le_of_ble_eq_true rfl) (Nat.le_of_ble_eq_true rfl) rfl
  · refine zk_aload_n (pc := 6) B dL_cell_6 0 rfl rfl ?_
    refine zk_iload_n (pc := 7) B dL_cell_7 1 rfl rfl ?_
    refine zk_sld (pc := 8) B hx9 hb9 dL_cell_8 ?_
    refine zk_ldc (pc := 9) B kc_L_27 dL_cell_9 ?_
    refine zk_iand (pc := 11) B dL_cell_11 ?_
    refine zk_goto (tgt := 16) (pc := 12) B dL_cell_12 (by decide) ?_
    exact zk_iret (pc := 16) B dL_cell_16 rfl rfl (Nat.le_of_ble_eq_true rfl) (Nat.le_of_ble_eq_true rfl) rfl
set_option maxHeartbeats 4000000 in
set_option maxRecDepth 100000 in
theorem m_Law_clause {X : z_X} (hX : z_ok X) {G : z_Gr} {a : Nat} (ha : g_Law G a) {w0 : Nat} (hw0 : w0 < 14) (p1 : Int32) (p2 : Int32) (p3 : Int32) (p4 : Int32) (M : z_Mem) (b : z_Mem) (h : F_Law_clause a w0 p1 p2 p3 p4 M = some b) : z_Ct X yL_clause cL_clause 6 none ({ frames := 5, cells := 0, slots := 0, locals := 107 } : Room) [.ref a, .ref (z_sa X w0), .int p1, .int p2, .int p3, .int p4] G M (fun o9 G9 M9 => G9 = G ∧ (o9, M9) = z_cvm b) := by
  refine z_enter hX (by decide) (Nat.le_of_ble_eq_true rfl) h (fun F B hR => ?_)
  have J61 : ∀  (M : z_Mem), z_K X F 6 0 0 G z_cvm b 0 0 61 [(0, .ref a)] [] M (F_Law_clause_J61 a w0 M) := by
    intro  M
    unfold F_Law_clause_J61
    refine zk_aload_n (pc := 61) B dL_clause_61 0 rfl rfl ?_
    refine zk_ldcs (pc := 62) B 2 (by decide) rfl rfl dL_clause_62 ?_
    refine zk_cvm (pc := 64) (k' := 0) (n' := 0) B rfl rfl (Nat.le_of_ble_eq_true rfl) (Nat.le_of_ble_eq_true rfl) (fun b hb => zr_V B hR kV_yL_writes km_L_34 kx_12 (gLaw_s ha) [.ref (z_sa X 2)] rfl rfl (Nat.le_of_ble_eq_true rfl) dL_clause_64 (m_Law_writes hX ha (by decide) M b hb) ⟨Nat.le_of_ble_eq_true rfl, Nat.le_of_ble_eq_true rfl⟩ ⟨Nat.le_of_ble_eq_true rfl, Nat.le_of_ble_eq_true rfl⟩) (fun M10 => ?_)
    exact zk_vret (pc := 67) B dL_clause_67 rfl (Nat.le_of_ble_eq_true rfl) (Nat.le_of_ble_eq_true rfl) rfl
  have J44 : ∀ (v5 : Int32) (M : z_Mem), z_K X F 6 0 0 G z_cvm b 0 0 44 [(0, .ref a), (5, .int v5)] [] M (F_Law_clause_J44 a w0 v5 M) := by
    intro v5 M
    unfold F_Law_clause_J44
    refine zk_iload (pc := 44) B dL_clause_44 1 rfl ?_
    refine zk_if_lt (tgt := 61) (pc := 46) B dL_clause_46 (by decide) (fun _ => ?_) (fun _ => ?_)
    · refine zk_sub [0] rfl ?_
      exact J61 M
    · refine zk_aload_n (pc := 49) B dL_clause_49 0 rfl rfl ?_
      refine zk_ldcs (pc := 50) B 1 (by decide) rfl rfl dL_clause_50 ?_
      refine zk_cvm (pc := 52) (k' := 0) (n' := 0) B rfl rfl (Nat.le_of_ble_eq_true rfl) (Nat.le_of_ble_eq_true rfl) (fun b hb => zr_V B hR kV_yL_writes km_L_34 kx_12 (gLaw_s ha) [.ref (z_sa X 1)] rfl rfl (Nat.le_of_ble_eq_true rfl) dL_clause_52 (m_Law_writes hX ha (by decide) M b hb) ⟨Nat.le_of_ble_eq_true rfl, Nat.le_of_ble_eq_true rfl⟩ ⟨Nat.le_of_ble_eq_true rfl, Nat.le_of_ble_eq_true rfl⟩) (fun M8 => ?_)
      refine zk_aload_n (pc := 55) B dL_clause_55 0 rfl rfl ?_
      refine zk_iload (pc := 56) B dL_clause_56 1 rfl ?_
      refine zk_cvm (pc := 58) (k' := 0) (n' := 0) B rfl rfl (Nat.le_of_ble_eq_true rfl) (Nat.le_of_ble_eq_true rfl) (fun b hb => zr_V B hR kV_yL_number km_L_40 kx_12 (gLaw_s ha) [.int v5] rfl rfl (Nat.le_of_ble_eq_true rfl) dL_clause_58 (m_Law_number hX ha v5 M8 b hb) ⟨Nat.le_of_ble_eq_true rfl, Nat.le_of_ble_eq_true rfl⟩ ⟨Nat.le_of_ble_eq_true rfl, Nat.le_of_ble_eq_true rfl⟩) (fun M9 => ?_)
      refine zk_sub [0] rfl ?_
      exact J61 M9
  show z_K X F 6 0 0 G z_cvm b 0 0 0 [(0, .ref a), (1, .ref (z_sa X w0)), (2, .int p1), (3, .int p2), (4, .int p3), (5, .int p4)] [] M (F_Law_clause a w0 p1 p2 p3 p4 M)
  unfold F_Law_clause
  refine zk_aload_n (pc := 0) B dL_clause_0 0 rfl rfl ?_
  refine zk_aload_n (pc := 1) B dL_clause_1 1 rfl rfl ?_
  refine zk_cvm (pc := 2) (k' := 0) (n' := 0) B rfl rfl (Nat.le_of_ble_eq_true rfl) (Nat.le_of_ble_eq_true rfl) (fun b hb => zr_V B hR kV_yL_writes km_L_34 kx_12 (gLaw_s ha) [.ref (z_sa X w0)] rfl rfl (Nat.le_of_ble_eq_true rfl) dL_clause_2 (m_Law_writes hX ha hw0 M b hb) ⟨Nat.le_of_ble_eq_true rfl, Nat.le_of_ble_eq_true rfl⟩ ⟨Nat.le_of_ble_eq_true rfl, Nat.le_of_ble_eq_true rfl⟩) (fun M1 => ?_)
  refine zk_aload_n (pc := 5) B dL_clause_5 0 rfl rfl ?_
  refine zk_ldcs (pc := 6) B 1 (by decide) rfl rfl dL_clause_6 ?_
  refine zk_cvm (pc := 8) (k' := 0) (n' := 0) B rfl rfl (Nat.le_of_ble_eq_true rfl) (Nat.le_of_ble_eq_true rfl) (fun b hb => zr_V B hR kV_yL_writes km_L_34 kx_12 (gLaw_s ha) [.ref (z_sa X 1)] rfl rfl (Nat.le_of_ble_eq_true rfl) dL_clause_8 (m_Law_writes hX ha (by decide) M1 b hb) ⟨Nat.le_of_ble_eq_true rfl, Nat.le_of_ble_eq_true rfl⟩ ⟨Nat.le_of_ble_eq_true rfl, Nat.le_of_ble_eq_true rfl⟩) (fun M2 => ?_)
  refine zk_aload_n (pc := 11) B dL_clause_11 0 rfl rfl ?_
  refine zk_iload_n (pc := 12) B dL_clause_12 2 rfl rfl ?_
  refine zk_cvm (pc := 13) (k' := 0) (n' := 0) B rfl rfl (Nat.le_of_ble_eq_true rfl) (Nat.le_of_ble_eq_true rfl) (fun b hb => zr_V B hR kV_yL_number km_L_40 kx_12 (gLaw_s ha) [.int p1] rfl rfl (Nat.le_of_ble_eq_true rfl) dL_clause_13 (m_Law_number hX ha p1 M2 b hb) ⟨Nat.le_of_ble_eq_true rfl, Nat.le_of_ble_eq_true rfl⟩ ⟨Nat.le_of_ble_eq_true rfl, Nat.le_of_ble_eq_true rfl⟩) (fun M3 => ?_)
  refine zk_aload_n (pc := 16) B dL_clause_16 0 rfl rfl ?_
  refine zk_ldcs (pc := 17) B 1 (by decide) rfl rfl dL_clause_17 ?_
  refine zk_cvm (pc := 19) (k' := 0) (n' := 0) B rfl rfl (Nat.le_of_ble_eq_true rfl) (Nat.le_of_ble_eq_true rfl) (fun b hb => zr_V B hR kV_yL_writes km_L_34 kx_12 (gLaw_s ha) [.ref (z_sa X 1)] rfl rfl (Nat.le_of_ble_eq_true rfl) dL_clause_19 (m_Law_writes hX ha (by decide) M3 b hb) ⟨Nat.le_of_ble_eq_true rfl, Nat.le_of_ble_eq_true rfl⟩ ⟨Nat.le_of_ble_eq_true rfl, Nat.le_of_ble_eq_true rfl⟩) (fun M4 => ?_)
  refine zk_aload_n (pc := 22) B dL_clause_22 0 rfl rfl ?_
  refine zk_iload_n (pc := 23) B dL_clause_23 3 rfl rfl ?_
  refine zk_cvm (pc := 24) (k' := 0) (n' := 0) B rfl rfl (Nat.le_of_ble_eq_true rfl) (Nat.le_of_ble_eq_true rfl) (fun b hb => zr_V B hR kV_yL_number km_L_40 kx_12 (gLaw_s ha) [.int p2] rfl rfl (Nat.le_of_ble_eq_true rfl) dL_clause_24 (m_Law_number hX ha p2 M4 b hb) ⟨Nat.le_of_ble_eq_true rfl, Nat.le_of_ble_eq_true rfl⟩ ⟨Nat.le_of_ble_eq_true rfl, Nat.le_of_ble_eq_true rfl⟩) (fun M5 => ?_)
  refine zk_iload (pc := 27) B dL_clause_27 4 rfl ?_
  refine zk_if_lt (tgt := 44) (pc := 29) B dL_clause_29 (by decide) (fun _ => ?_) (fun _ => ?_)
  · refine zk_sub [0, 5] rfl ?_
    exact J44 p4 M5
  · refine zk_aload_n (pc := 32) B dL_clause_32 0 rfl rfl ?_
    refine zk_ldcs (pc := 33) B 1 (by decide) rfl rfl dL_clause_33 ?_
    refine zk_cvm (pc := 35) (k' := 0) (n' := 0) B rfl rfl (Nat.le_of_ble_eq_true rfl) (Nat.le_of_ble_eq_true rfl) (fun b hb => zr_V B hR kV_yL_writes km_L_34 kx_12 (gLaw_s ha) [.ref (z_sa X 1)] rfl rfl (Nat.le_of_ble_eq_true rfl) dL_clause_35 (m_Law_writes hX ha (by decide) M5 b hb) ⟨Nat.le_of_ble_eq_true rfl, Nat.le_of_ble_eq_true rfl⟩ ⟨Nat.le_of_ble_eq_true rfl, Nat.le_of_ble_eq_true rfl⟩) (fun M6 => ?_)
    refine zk_aload_n (pc := 38) B dL_clause_38 0 rfl rfl ?_
    refine zk_iload (pc := 39) B dL_clause_39 4 rfl ?_
    refine zk_cvm (pc := 41) (k' := 0) (n' := 0) B rfl rfl (Nat.le_of_ble_eq_true rfl) (Nat.le_of_ble_eq_true rfl) (fun b hb => zr_V B hR kV_yL_number km_L_40 kx_12 (gLaw_s ha) [.int p3] rfl rfl (Nat.le_of_ble_eq_true rfl) dL_clause_41 (m_Law_number hX ha p3 M6 b hb) ⟨Nat.le_of_ble_eq_true rfl, Nat.le_of_ble_eq_true rfl⟩ ⟨Nat.le_of_ble_eq_true rfl, Nat.le_of_ble_eq_true rfl⟩) (fun M7 => ?_)
    refine zk_sub [0, 5] rfl ?_
    exact J44 p4 M7
set_option maxHeartbeats 4000000 in
set_option maxRecDepth 100000 in
theorem m_Law_rule {X : z_X} (hX : z_ok X) {G : z_Gr} {a : Nat} (ha : g_Law G a) {w0 : Nat} (hw0 : w0 < 14) (p1 : Int32) (M : z_Mem) (b : z_Mem) (h : F_Law_rule a w0 p1 M = some b) : z_Ct X yL_rule cL_rule 3 none ({ frames := 5, cells := 0, slots := 0, locals := 107 } : Room) [.ref a, .ref (z_sa X w0), .int p1] G M (fun o9 G9 M9 => G9 = G ∧ (o9, M9) = z_cvm b) := by
  refine z_enter hX (by decide) (Nat.le_of_ble_eq_true rfl) h (fun F B hR => ?_)
  show z_K X F 3 0 0 G z_cvm b 0 0 0 [(0, .ref a), (1, .ref (z_sa X w0)), (2, .int p1)] [] M (F_Law_rule a w0 p1 M)
  unfold F_Law_rule
  refine zk_aload_n (pc := 0) B dL_rule_0 0 rfl rfl ?_
  refine zk_ldcs (pc := 1) B 3 (by decide) rfl rfl dL_rule_1 ?_
  refine zk_cvm (pc := 3) (k' := 0) (n' := 0) B rfl rfl (Nat.le_of_ble_eq_true rfl) (Nat.le_of_ble_eq_true rfl) (fun b hb => zr_V B hR kV_yL_writes km_L_34 kx_12 (gLaw_s ha) [.ref (z_sa X 3)] rfl rfl (Nat.le_of_ble_eq_true rfl) dL_rule_3 (m_Law_writes hX ha (by decide) M b hb) ⟨Nat.le_of_ble_eq_true rfl, Nat.le_of_ble_eq_true rfl⟩ ⟨Nat.le_of_ble_eq_true rfl, Nat.le_of_ble_eq_true rfl⟩) (fun M1 => ?_)
  refine zk_aload_n (pc := 6) B dL_rule_6 0 rfl rfl ?_
  refine zk_aload_n (pc := 7) B dL_rule_7 1 rfl rfl ?_
  refine zk_cvm (pc := 8) (k' := 0) (n' := 0) B rfl rfl (Nat.le_of_ble_eq_true rfl) (Nat.le_of_ble_eq_true rfl) (fun b hb => zr_V B hR kV_yL_writes km_L_34 kx_12 (gLaw_s ha) [.ref (z_sa X w0)] rfl rfl (Nat.le_of_ble_eq_true rfl) dL_rule_8 (m_Law_writes hX ha hw0 M1 b hb) ⟨Nat.le_of_ble_eq_true rfl, Nat.le_of_ble_eq_true rfl⟩ ⟨Nat.le_of_ble_eq_true rfl, Nat.le_of_ble_eq_true rfl⟩) (fun M2 => ?_)
  refine zk_aload_n (pc := 11) B dL_rule_11 0 rfl rfl ?_
  refine zk_ldcs (pc := 12) B 1 (by decide) rfl rfl dL_rule_12 ?_
  refine zk_cvm (pc := 14) (k' := 0) (n' := 0) B rfl rfl (Nat.le_of_ble_eq_true rfl) (Nat.le_of_ble_eq_true rfl) (fun b hb => zr_V B hR kV_yL_writes km_L_34 kx_12 (gLaw_s ha) [.ref (z_sa X 1)] rfl rfl (Nat.le_of_ble_eq_true rfl) dL_rule_14 (m_Law_writes hX ha (by decide) M2 b hb) ⟨Nat.le_of_ble_eq_true rfl, Nat.le_of_ble_eq_true rfl⟩ ⟨Nat.le_of_ble_eq_true rfl, Nat.le_of_ble_eq_true rfl⟩) (fun M3 => ?_)
  refine zk_aload_n (pc := 17) B dL_rule_17 0 rfl rfl ?_
  refine zk_iload_n (pc := 18) B dL_rule_18 2 rfl rfl ?_
  refine zk_cvm (pc := 19) (k' := 0) (n' := 0) B rfl rfl (Nat.le_of_ble_eq_true rfl) (Nat.le_of_ble_eq_true rfl) (fun b hb => zr_V B hR kV_yL_number km_L_40 kx_12 (gLaw_s ha) [.int p1] rfl rfl (Nat.le_of_ble_eq_true rfl) dL_rule_19 (m_Law_number hX ha p1 M3 b hb) ⟨Nat.le_of_ble_eq_true rfl, Nat.le_of_ble_eq_true rfl⟩ ⟨Nat.le_of_ble_eq_true rfl, Nat.le_of_ble_eq_true rfl⟩) (fun M4 => ?_)
  refine zk_aload_n (pc := 22) B dL_rule_22 0 rfl rfl ?_
  refine zk_ldcs (pc := 23) B 2 (by decide) rfl rfl dL_rule_23 ?_
  refine zk_cvm (pc := 25) (k' := 0) (n' := 0) B rfl rfl (Nat.le_of_ble_eq_true rfl) (Nat.le_of_ble_eq_true rfl) (fun b hb => zr_V B hR kV_yL_writes km_L_34 kx_12 (gLaw_s ha) [.ref (z_sa X 2)] rfl rfl (Nat.le_of_ble_eq_true rfl) dL_rule_25 (m_Law_writes hX ha (by decide) M4 b hb) ⟨Nat.le_of_ble_eq_true rfl, Nat.le_of_ble_eq_true rfl⟩ ⟨Nat.le_of_ble_eq_true rfl, Nat.le_of_ble_eq_true rfl⟩) (fun M5 => ?_)
  exact zk_vret (pc := 28) B dL_rule_28 rfl (Nat.le_of_ble_eq_true rfl) (Nat.le_of_ble_eq_true rfl) rfl
set_option maxHeartbeats 4000000 in
set_option maxRecDepth 100000 in
theorem m_Law_asks {X : z_X} (hX : z_ok X) {G : z_Gr} {o : Nat} (hG : g_Sys G o) {a : Nat} (ha : g_Law G a) (p1 : Int32) (M : z_Mem) (b : z_Mem) (h : F_Law_asks o a p1 M = some b) : z_Ct X yL_asks cL_asks 5 none ({ frames := 7, cells := 0, slots := 0, locals := 189 } : Room) [.ref a, .ref o, .int p1] G M (fun o9 G9 M9 => G9 = G ∧ (o9, M9) = z_cvm b) := by
  refine z_enter hX (by decide) (Nat.le_of_ble_eq_true rfl) h (fun F B hR => ?_)
  show z_K X F 5 0 0 G z_cvm b 0 0 0 [(0, .ref a), (1, .ref o), (2, .int p1)] [] M (F_Law_asks o a p1 M)
  unfold F_Law_asks
  refine zk_iload_n (pc := 0) B dL_asks_0 2 rfl rfl ?_
  refine zk_aload_n (pc := 1) B dL_asks_1 0 rfl rfl ?_
  refine zk_geti (pc := 2) B kx_12 (gLaw_s ha) 2 (by decide) kf_L_52 rfl dL_asks_2 ?_
  refine zk_chk (fun h8 => zk_irem (pc := 5) B dL_asks_5 h8 ?_)
  refine zk_li (fun x1 => ?_)
  refine zk_istore_n (loc' := [(3, .int x1), (0, .ref a), (1, .ref o), (2, .int p1)]) (pc := 6) B dL_asks_6 rfl (by decide) rfl ?_
  refine zk_iload_n (pc := 7) B dL_asks_7 0 rfl rfl ?_
  refine zk_iconst (v := 1) (pc := 8) B dL_asks_8 (by decide) ?_
  refine zk_iadd (pc := 9) B dL_asks_9 ?_
  refine zk_iload_n (pc := 10) B dL_asks_10 3 rfl rfl ?_
  refine zk_bipush (v := 8) (pc := 11) B dL_asks_11 (by decide) ?_
  refine zk_idiv (pc := 13) B dL_asks_13 (by decide) ?_
  refine zk_aload_n (pc := 14) B dL_asks_14 1 rfl rfl ?_
  refine zk_geti (pc := 15) B kx_12 (gLaw_s ha) 2 (by decide) kf_L_52 rfl dL_asks_15 ?_
  refine zk_iconst (v := 1) (pc := 18) B dL_asks_18 (by decide) ?_
  refine zk_isub (pc := 19) B dL_asks_19 ?_
  refine zk_chk (fun h7 => zk_irem (pc := 20) B dL_asks_20 h7 ?_)
  refine zk_iadd (pc := 21) B dL_asks_21 ?_
  refine zk_aload_n (pc := 22) B dL_asks_22 1 rfl rfl ?_
  refine zk_geti (pc := 23) B kx_12 (gLaw_s ha) 2 (by decide) kf_L_52 rfl dL_asks_23 ?_
  refine zk_chk (fun h6 => zk_irem (pc := 26) B dL_asks_26 h6 ?_)
  refine zk_li (fun x2 => ?_)
  refine zk_istore (loc' := [(4, .int x2), (3, .int x1), (0, .ref a), (1, .ref o), (2, .int p1)]) (pc := 27) B dL_asks_27 (by decide) rfl ?_
  refine zk_aload_n (pc := 29) B dL_asks_29 3 rfl rfl ?_
  refine zk_iload_n (pc := 30) B dL_asks_30 1 rfl rfl ?_
  refine zk_iload (pc := 31) B dL_asks_31 0 rfl ?_
  refine zk_iconst (v := 1) (pc := 33) B dL_asks_33 (by decide) ?_
  refine zk_iload_n (pc := 34) B dL_asks_34 4 rfl rfl ?_
  refine zk_bipush (v := 64) (pc := 35) B dL_asks_35 (by decide) ?_
  refine zk_idiv (pc := 37) B dL_asks_37 (by decide) ?_
  refine zk_iconst (v := 3) (pc := 38) B dL_asks_38 (by decide) ?_
  refine zk_irem (pc := 39) B dL_asks_39 (by decide) ?_
  refine zk_iadd (pc := 40) B dL_asks_40 ?_
  refine zk_iload_n (pc := 41) B dL_asks_41 4 rfl rfl ?_
  refine zk_sipush (v := 256) (pc := 42) B dL_asks_42 (by decide) ?_
  refine zk_idiv (pc := 45) B dL_asks_45 (by decide) ?_
  refine zk_bipush (v := 20) (pc := 46) B dL_asks_46 (by decide) ?_
  refine zk_irem (pc := 48) B dL_asks_48 (by decide) ?_
  refine zk_iload_n (pc := 49) B dL_asks_49 4 rfl rfl ?_
  refine zk_sipush (v := 5120) (pc := 50) B dL_asks_50 (by decide) ?_
  refine zk_idiv (pc := 53) B dL_asks_53 (by decide) ?_
  refine zk_sipush (v := 200) (pc := 54) B dL_asks_54 (by decide) ?_
  refine zk_irem (pc := 57) B dL_asks_57 (by decide) ?_
  refine zk_cim (pc := 58) (k' := 0) (n' := 0) B rfl rfl (Nat.le_of_ble_eq_true rfl) (Nat.le_of_ble_eq_true rfl) (fun b hb => zr_V B hR kV_yX11_ask km_L_107 kx_11 (gSys_s hG) [.int x1, .int x2, .int (1 + ((p1 / 64) - (p1 / 64) / 3 * 3)), .int ((p1 / 256) - (p1 / 256) / 20 * 20), .int ((p1 / 5120) - (p1 / 5120) / 200 * 200)] rfl rfl (Nat.le_of_ble_eq_true rfl) dL_asks_58 (m_Sys_ask hX hG x1 x2 (1 + ((p1 / 64) - (p1 / 64) / 3 * 3)) ((p1 / 256) - (p1 / 256) / 20 * 20) ((p1 / 5120) - (p1 / 5120) / 200 * 200) M b hb) ⟨Nat.le_of_ble_eq_true rfl, Nat.le_of_ble_eq_true rfl⟩ ⟨Nat.le_of_ble_eq_true rfl, Nat.le_of_ble_eq_true rfl⟩) (fun x4 M3 => ?_)
  refine zk_if_lt (tgt := 74) (pc := 61) B dL_asks_61 (by decide) (fun _ => ?_) (fun _ => ?_)
  · exact zk_vret (pc := 74) B dL_asks_74 rfl (Nat.le_of_ble_eq_true rfl) (Nat.le_of_ble_eq_true rfl) rfl
  · refine zk_aload_n (pc := 64) B dL_asks_64 2 rfl rfl ?_
    refine zk_dup (pc := 65) B dL_asks_65 rfl ?_
    refine zk_geti (pc := 66) B kx_12 (gLaw_s ha) 6 (by decide) kf_L_110 rfl dL_asks_66 ?_
    refine zk_iconst (v := 1) (pc := 69) B dL_asks_69 (by decide) ?_
    refine zk_iadd (pc := 70) B dL_asks_70 ?_
    refine zk_puti (pc := 71) B kx_12 (gLaw_s ha) 6 (by decide) kf_L_110 rfl rfl rfl rfl dL_asks_71 ?_
    refine zk_lm (fun M5 => ?_)
    exact zk_vret (pc := 74) B dL_asks_74 rfl (Nat.le_of_ble_eq_true rfl) (Nat.le_of_ble_eq_true rfl) rfl
set_option maxHeartbeats 4000000 in
set_option maxRecDepth 100000 in
theorem m_Law_acts {X : z_X} (hX : z_ok X) {G : z_Gr} {o : Nat} (hG : g_Sys G o) {a : Nat} (ha : g_Law G a) (p1 : Int32) (M : z_Mem) (b : z_Mem) (h : F_Law_acts o a p1 M = some b) : z_Ct X yL_acts cL_acts 4 none ({ frames := 8, cells := 0, slots := 0, locals := 213 } : Room) [.ref a, .ref o, .int p1] G M (fun o9 G9 M9 => G9 = G ∧ (o9, M9) = z_cvm b) := by
  refine z_enter hX (by decide) (Nat.le_of_ble_eq_true rfl) h (fun F B hR => ?_)
  show z_K X F 4 0 0 G z_cvm b 0 0 0 [(0, .ref a), (1, .ref o), (2, .int p1)] [] M (F_Law_acts o a p1 M)
  unfold F_Law_acts
  refine zk_iload_n (pc := 0) B dL_acts_0 2 rfl rfl ?_
  refine zk_bipush (v := 8) (pc := 1) B dL_acts_1 (by decide) ?_
  refine zk_idiv (pc := 3) B dL_acts_3 (by decide) ?_
  refine zk_li (fun x1 => ?_)
  refine zk_istore_n (loc' := [(3, .int x1), (0, .ref a), (1, .ref o), (2, .int p1)]) (pc := 4) B dL_acts_4 rfl (by decide) rfl ?_
  refine zk_iload_n (pc := 5) B dL_acts_5 3 rfl rfl ?_
  refine zk_bipush (v := 8) (pc := 6) B dL_acts_6 (by decide) ?_
  refine zk_irem (pc := 8) B dL_acts_8 (by decide) ?_
  refine zk_if (fun hs => zk_tin (v := 0) (tgt := 52) (pc := 9) B dL_acts_9 hs (by decide) (by decide) rfl (by decide) ?_) (fun hn9_0 => ?_)
  · refine zk_aload_n (pc := 52) B dL_acts_52 1 rfl rfl ?_
    refine zk_aload_n (pc := 53) B dL_acts_53 2 rfl rfl ?_
    refine zk_iload_n (pc := 54) B dL_acts_54 0 rfl rfl ?_
    refine zk_cvm (pc := 55) (k' := 0) (n' := 0) B rfl rfl (Nat.le_of_ble_eq_true rfl) (Nat.le_of_ble_eq_true rfl) (fun b hb => zr_V B hR kV_yL_asks km_L_130 kx_12 (gLaw_s ha) [.ref o, .int x1] rfl rfl (Nat.le_of_ble_eq_true rfl) dL_acts_55 (m_Law_asks hX hG ha x1 M b hb) ⟨Nat.le_of_ble_eq_true rfl, Nat.le_of_ble_eq_true rfl⟩ ⟨Nat.le_of_ble_eq_true rfl, Nat.le_of_ble_eq_true rfl⟩) (fun M20 => ?_)
    refine zk_aload_n (pc := 58) B dL_acts_58 1 rfl rfl ?_
    refine zk_geti (pc := 59) B kx_12 (gLaw_s ha) 6 (by decide) kf_L_110 rfl dL_acts_59 ?_
    refine zk_if_le (tgt := 134) (pc := 62) B dL_acts_62 (by decide) (fun _ => ?_) (fun _ => ?_)
    · exact zk_vret (pc := 134) B dL_acts_134 rfl (Nat.le_of_ble_eq_true rfl) (Nat.le_of_ble_eq_true rfl) rfl
    · refine zk_aload_n (pc := 65) B dL_acts_65 2 rfl rfl ?_
      refine zk_aload_n (pc := 66) B dL_acts_66 1 rfl rfl ?_
      refine zk_geti (pc := 67) B kx_12 (gLaw_s ha) 6 (by decide) kf_L_110 rfl dL_acts_67 ?_
      refine zk_iconst (v := 1) (pc := 70) B dL_acts_70 (by decide) ?_
      refine zk_isub (pc := 71) B dL_acts_71 ?_
      refine zk_cim (pc := 72) (k' := 0) (n' := 0) B rfl rfl (Nat.le_of_ble_eq_true rfl) (Nat.le_of_ble_eq_true rfl) (fun b hb => zr_V B hR kV_yX11_accept km_L_133 kx_11 (gSys_s hG) [.int ((M20.1 a 6) - 1)] rfl rfl (Nat.le_of_ble_eq_true rfl) dL_acts_72 (m_Sys_accept hX hG ((M20.1 a 6) - 1) M20 b hb) ⟨Nat.le_of_ble_eq_true rfl, Nat.le_of_ble_eq_true rfl⟩ ⟨Nat.le_of_ble_eq_true rfl, Nat.le_of_ble_eq_true rfl⟩) (fun x22 M21 => ?_)
      refine zk_pop (pc := 75) B dL_acts_75 rfl ?_
      refine zk_goto (tgt := 134) (pc := 76) B dL_acts_76 (by decide) ?_
      exact zk_vret (pc := 134) B dL_acts_134 rfl (Nat.le_of_ble_eq_true rfl) (Nat.le_of_ble_eq_true rfl) rfl
  · refine zk_if (fun hs => zk_tin (v := 1) (tgt := 52) (pc := 9) B dL_acts_9 hs (by decide) (by decide) rfl (by decide) ?_) (fun hn9_1 => ?_)
    · refine zk_aload_n (pc := 52) B dL_acts_52 1 rfl rfl ?_
      refine zk_aload_n (pc := 53) B dL_acts_53 2 rfl rfl ?_
      refine zk_iload_n (pc := 54) B dL_acts_54 0 rfl rfl ?_
      refine zk_cvm (pc := 55) (k' := 0) (n' := 0) B rfl rfl (Nat.le_of_ble_eq_true rfl) (Nat.le_of_ble_eq_true rfl) (fun b hb => zr_V B hR kV_yL_asks km_L_130 kx_12 (gLaw_s ha) [.ref o, .int x1] rfl rfl (Nat.le_of_ble_eq_true rfl) dL_acts_55 (m_Law_asks hX hG ha x1 M b hb) ⟨Nat.le_of_ble_eq_true rfl, Nat.le_of_ble_eq_true rfl⟩ ⟨Nat.le_of_ble_eq_true rfl, Nat.le_of_ble_eq_true rfl⟩) (fun M17 => ?_)
      refine zk_aload_n (pc := 58) B dL_acts_58 1 rfl rfl ?_
      refine zk_geti (pc := 59) B kx_12 (gLaw_s ha) 6 (by decide) kf_L_110 rfl dL_acts_59 ?_
      refine zk_if_le (tgt := 134) (pc := 62) B dL_acts_62 (by decide) (fun _ => ?_) (fun _ => ?_)
      · exact zk_vret (pc := 134) B dL_acts_134 rfl (Nat.le_of_ble_eq_true rfl) (Nat.le_of_ble_eq_true rfl) rfl
      · refine zk_aload_n (pc := 65) B dL_acts_65 2 rfl rfl ?_
        refine zk_aload_n (pc := 66) B dL_acts_66 1 rfl rfl ?_
        refine zk_geti (pc := 67) B kx_12 (gLaw_s ha) 6 (by decide) kf_L_110 rfl dL_acts_67 ?_
        refine zk_iconst (v := 1) (pc := 70) B dL_acts_70 (by decide) ?_
        refine zk_isub (pc := 71) B dL_acts_71 ?_
        refine zk_cim (pc := 72) (k' := 0) (n' := 0) B rfl rfl (Nat.le_of_ble_eq_true rfl) (Nat.le_of_ble_eq_true rfl) (fun b hb => zr_V B hR kV_yX11_accept km_L_133 kx_11 (gSys_s hG) [.int ((M17.1 a 6) - 1)] rfl rfl (Nat.le_of_ble_eq_true rfl) dL_acts_72 (m_Sys_accept hX hG ((M17.1 a 6) - 1) M17 b hb) ⟨Nat.le_of_ble_eq_true rfl, Nat.le_of_ble_eq_true rfl⟩ ⟨Nat.le_of_ble_eq_true rfl, Nat.le_of_ble_eq_true rfl⟩) (fun x19 M18 => ?_)
        refine zk_pop (pc := 75) B dL_acts_75 rfl ?_
        refine zk_goto (tgt := 134) (pc := 76) B dL_acts_76 (by decide) ?_
        exact zk_vret (pc := 134) B dL_acts_134 rfl (Nat.le_of_ble_eq_true rfl) (Nat.le_of_ble_eq_true rfl) rfl
    · refine zk_if (fun hs => zk_tin (v := 2) (tgt := 52) (pc := 9) B dL_acts_9 hs (by decide) (by decide) rfl (by decide) ?_) (fun hn9_2 => ?_)
      · refine zk_aload_n (pc := 52) B dL_acts_52 1 rfl rfl ?_
        refine zk_aload_n (pc := 53) B dL_acts_53 2 rfl rfl ?_
        refine zk_iload_n (pc := 54) B dL_acts_54 0 rfl rfl ?_
        refine zk_cvm (pc := 55) (k' := 0) (n' := 0) B rfl rfl (Nat.le_of_ble_eq_true rfl) (Nat.le_of_ble_eq_true rfl) (fun b hb => zr_V B hR kV_yL_asks km_L_130 kx_12 (gLaw_s ha) [.ref o, .int x1] rfl rfl (Nat.le_of_ble_eq_true rfl) dL_acts_55 (m_Law_asks hX hG ha x1 M b hb) ⟨Nat.le_of_ble_eq_true rfl, Nat.le_of_ble_eq_true rfl⟩ ⟨Nat.le_of_ble_eq_true rfl, Nat.le_of_ble_eq_true rfl⟩) (fun M14 => ?_)
        refine zk_aload_n (pc := 58) B dL_acts_58 1 rfl rfl ?_
        refine zk_geti (pc := 59) B kx_12 (gLaw_s ha) 6 (by decide) kf_L_110 rfl dL_acts_59 ?_
        refine zk_if_le (tgt := 134) (pc := 62) B dL_acts_62 (by decide) (fun _ => ?_) (fun _ => ?_)
        · exact zk_vret (pc := 134) B dL_acts_134 rfl (Nat.le_of_ble_eq_true rfl) (Nat.le_of_ble_eq_true rfl) rfl
        · refine zk_aload_n (pc := 65) B dL_acts_65 2 rfl rfl ?_
          refine zk_aload_n (pc := 66) B dL_acts_66 1 rfl rfl ?_
          refine zk_geti (pc := 67) B kx_12 (gLaw_s ha) 6 (by decide) kf_L_110 rfl dL_acts_67 ?_
          refine zk_iconst (v := 1) (pc := 70) B dL_acts_70 (by decide) ?_
          refine zk_isub (pc := 71) B dL_acts_71 ?_
          refine zk_cim (pc := 72) (k' := 0) (n' := 0) B rfl rfl (Nat.le_of_ble_eq_true rfl) (Nat.le_of_ble_eq_true rfl) (fun b hb => zr_V B hR kV_yX11_accept km_L_133 kx_11 (gSys_s hG) [.int ((M14.1 a 6) - 1)] rfl rfl (Nat.le_of_ble_eq_true rfl) dL_acts_72 (m_Sys_accept hX hG ((M14.1 a 6) - 1) M14 b hb) ⟨Nat.le_of_ble_eq_true rfl, Nat.le_of_ble_eq_true rfl⟩ ⟨Nat.le_of_ble_eq_true rfl, Nat.le_of_ble_eq_true rfl⟩) (fun x16 M15 => ?_)
          refine zk_pop (pc := 75) B dL_acts_75 rfl ?_
          refine zk_goto (tgt := 134) (pc := 76) B dL_acts_76 (by decide) ?_
          exact zk_vret (pc := 134) B dL_acts_134 rfl (Nat.le_of_ble_eq_true rfl) (Nat.le_of_ble_eq_true rfl) rfl
      · refine zk_if (fun hs => zk_tin (v := 3) (tgt := 79) (pc := 9) B dL_acts_9 hs (by decide) (by decide) rfl (by decide) ?_) (fun hn9_3 => ?_)
        · refine zk_aload_n (pc := 79) B dL_acts_79 2 rfl rfl ?_
          refine zk_iconst (v := 1) (pc := 80) B dL_acts_80 (by decide) ?_
          refine zk_iload_n (pc := 81) B dL_acts_81 0 rfl rfl ?_
          refine zk_bipush (v := 25) (pc := 82) B dL_acts_82 (by decide) ?_
          refine zk_irem (pc := 84) B dL_acts_84 (by decide) ?_
          refine zk_iadd (pc := 85) B dL_acts_85 ?_
          refine zk_cim (pc := 86) (k' := 0) (n' := 0) B rfl rfl (Nat.le_of_ble_eq_true rfl) (Nat.le_of_ble_eq_true rfl) (fun b hb => zr_V B hR kV_yX11_advance km_L_136 kx_11 (gSys_s hG) [.int (1 + (x1 - x1 / 25 * 25))] rfl rfl (Nat.le_of_ble_eq_true rfl) dL_acts_86 (m_Sys_advance hX hG (1 + (x1 - x1 / 25 * 25)) M b hb) ⟨Nat.le_of_ble_eq_true rfl, Nat.le_of_ble_eq_true rfl⟩ ⟨Nat.le_of_ble_eq_true rfl, Nat.le_of_ble_eq_true rfl⟩) (fun x13 M12 => ?_)
          refine zk_pop (pc := 89) B dL_acts_89 rfl ?_
          refine zk_goto (tgt := 134) (pc := 90) B dL_acts_90 (by decide) ?_
          exact zk_vret (pc := 134) B dL_acts_134 rfl (Nat.le_of_ble_eq_true rfl) (Nat.le_of_ble_eq_true rfl) rfl
        · refine zk_if (fun hs => zk_tin (v := 4) (tgt := 79) (pc := 9) B dL_acts_9 hs (by decide) (by decide) rfl (by decide) ?_) (fun hn9_4 => ?_)
          · refine zk_aload_n (pc := 79) B dL_acts_79 2 rfl rfl ?_
            refine zk_iconst (v := 1) (pc := 80) B dL_acts_80 (by decide) ?_
            refine zk_iload_n (pc := 81) B dL_acts_81 0 rfl rfl ?_
            refine zk_bipush (v := 25) (pc := 82) B dL_acts_82 (by decide) ?_
            refine zk_irem (pc := 84) B dL_acts_84 (by decide) ?_
            refine zk_iadd (pc := 85) B dL_acts_85 ?_
            refine zk_cim (pc := 86) (k' := 0) (n' := 0) B rfl rfl (Nat.le_of_ble_eq_true rfl) (Nat.le_of_ble_eq_true rfl) (fun b hb => zr_V B hR kV_yX11_advance km_L_136 kx_11 (gSys_s hG) [.int (1 + (x1 - x1 / 25 * 25))] rfl rfl (Nat.le_of_ble_eq_true rfl) dL_acts_86 (m_Sys_advance hX hG (1 + (x1 - x1 / 25 * 25)) M b hb) ⟨Nat.le_of_ble_eq_true rfl, Nat.le_of_ble_eq_true rfl⟩ ⟨Nat.le_of_ble_eq_true rfl, Nat.le_of_ble_eq_true rfl⟩) (fun x11 M10 => ?_)
            refine zk_pop (pc := 89) B dL_acts_89 rfl ?_
            refine zk_goto (tgt := 134) (pc := 90) B dL_acts_90 (by decide) ?_
            exact zk_vret (pc := 134) B dL_acts_134 rfl (Nat.le_of_ble_eq_true rfl) (Nat.le_of_ble_eq_true rfl) rfl
          · refine zk_if (fun hs => zk_tin (v := 5) (tgt := 79) (pc := 9) B dL_acts_9 hs (by decide) (by decide) rfl (by decide) ?_) (fun hn9_5 => ?_)
            · refine zk_aload_n (pc := 79) B dL_acts_79 2 rfl rfl ?_
              refine zk_iconst (v := 1) (pc := 80) B dL_acts_80 (by decide) ?_
              refine zk_iload_n (pc := 81) B dL_acts_81 0 rfl rfl ?_
              refine zk_bipush (v := 25) (pc := 82) B dL_acts_82 (by decide) ?_
              refine zk_irem (pc := 84) B dL_acts_84 (by decide) ?_
              refine zk_iadd (pc := 85) B dL_acts_85 ?_
              refine zk_cim (pc := 86) (k' := 0) (n' := 0) B rfl rfl (Nat.le_of_ble_eq_true rfl) (Nat.le_of_ble_eq_true rfl) (fun b hb => zr_V B hR kV_yX11_advance km_L_136 kx_11 (gSys_s hG) [.int (1 + (x1 - x1 / 25 * 25))] rfl rfl (Nat.le_of_ble_eq_true rfl) dL_acts_86 (m_Sys_advance hX hG (1 + (x1 - x1 / 25 * 25)) M b hb) ⟨Nat.le_of_ble_eq_true rfl, Nat.le_of_ble_eq_true rfl⟩ ⟨Nat.le_of_ble_eq_true rfl, Nat.le_of_ble_eq_true rfl⟩) (fun x9 M8 => ?_)
              refine zk_pop (pc := 89) B dL_acts_89 rfl ?_
              refine zk_goto (tgt := 134) (pc := 90) B dL_acts_90 (by decide) ?_
              exact zk_vret (pc := 134) B dL_acts_134 rfl (Nat.le_of_ble_eq_true rfl) (Nat.le_of_ble_eq_true rfl) rfl
            · refine zk_if (fun hs => zk_tin (v := 6) (tgt := 93) (pc := 9) B dL_acts_9 hs (by decide) (by decide) rfl (by decide) ?_) (fun hn9_6 => ?_)
              · refine zk_aload_n (pc := 93) B dL_acts_93 1 rfl rfl ?_
                refine zk_geti (pc := 94) B kx_12 (gLaw_s ha) 6 (by decide) kf_L_110 rfl dL_acts_94 ?_
                refine zk_if_le (tgt := 134) (pc := 97) B dL_acts_97 (by decide) (fun _ => ?_) (fun _ => ?_)
                · exact zk_vret (pc := 134) B dL_acts_134 rfl (Nat.le_of_ble_eq_true rfl) (Nat.le_of_ble_eq_true rfl) rfl
                · refine zk_aload_n (pc := 100) B dL_acts_100 2 rfl rfl ?_
                  refine zk_iload_n (pc := 101) B dL_acts_101 0 rfl rfl ?_
                  refine zk_aload_n (pc := 102) B dL_acts_102 1 rfl rfl ?_
                  refine zk_geti (pc := 103) B kx_12 (gLaw_s ha) 6 (by decide) kf_L_110 rfl dL_acts_103 ?_
                  refine zk_chk (fun h7 => zk_irem (pc := 106) B dL_acts_106 h7 ?_)
                  refine zk_cim (pc := 107) (k' := 0) (n' := 0) B rfl rfl (Nat.le_of_ble_eq_true rfl) (Nat.le_of_ble_eq_true rfl) (fun b hb => zr_V B hR kV_yX11_absent km_L_139 kx_11 (gSys_s hG) [.int (x1 - x1 / (M.1 a 6) * (M.1 a 6))] rfl rfl (Nat.le_of_ble_eq_true rfl) dL_acts_107 (m_Sys_absent hX hG (x1 - x1 / (M.1 a 6) * (M.1 a 6)) M b hb) ⟨Nat.le_of_ble_eq_true rfl, Nat.le_of_ble_eq_true rfl⟩ ⟨Nat.le_of_ble_eq_true rfl, Nat.le_of_ble_eq_true rfl⟩) (fun x6 M5 => ?_)
                  refine zk_pop (pc := 110) B dL_acts_110 rfl ?_
                  refine zk_goto (tgt := 134) (pc := 111) B dL_acts_111 (by decide) ?_
                  exact zk_vret (pc := 134) B dL_acts_134 rfl (Nat.le_of_ble_eq_true rfl) (Nat.le_of_ble_eq_true rfl) rfl
              · refine zk_tout (pc := 9)  (tgt := 114) B dL_acts_9 (by have q0 := z_ne hn9_0 (z := 0) (by decide); have q1 := z_ne hn9_1 (z := 1) (by decide); have q2 := z_ne hn9_2 (z := 2) (by decide); have q3 := z_ne hn9_3 (z := 3) (by decide); have q4 := z_ne hn9_4 (z := 4) (by decide); have q5 := z_ne hn9_5 (z := 5) (by decide); have q6 := z_ne hn9_6 (z := 6) (by decide); omega) (by decide) ?_
                refine zk_aload_n (pc := 114) B dL_acts_114 2 rfl rfl ?_
                refine zk_iload_n (pc := 115) B dL_acts_115 0 rfl rfl ?_
                refine zk_aload_n (pc := 116) B dL_acts_116 1 rfl rfl ?_
                refine zk_geti (pc := 117) B kx_12 (gLaw_s ha) 3 (by decide) kf_L_55 rfl dL_acts_117 ?_
                refine zk_chk (fun h4 => zk_irem (pc := 120) B dL_acts_120 h4 ?_)
                refine zk_iconst (v := 1) (pc := 121) B dL_acts_121 (by decide) ?_
                refine zk_iload_n (pc := 122) B dL_acts_122 0 rfl rfl ?_
                refine zk_iconst (v := 4) (pc := 123) B dL_acts_123 (by decide) ?_
                refine zk_idiv (pc := 124) B dL_acts_124 (by decide) ?_
                refine zk_sipush (v := 900) (pc := 125) B dL_acts_125 (by decide) ?_
                refine zk_irem (pc := 128) B dL_acts_128 (by decide) ?_
                refine zk_iadd (pc := 129) B dL_acts_129 ?_
                refine zk_cim (pc := 130) (k' := 0) (n' := 0) B rfl rfl (Nat.le_of_ble_eq_true rfl) (Nat.le_of_ble_eq_true rfl) (fun b hb => zr_V B hR kV_yX11_tip km_L_142 kx_11 (gSys_s hG) [.int (x1 - x1 / (M.1 a 3) * (M.1 a 3)), .int (1 + ((x1 / 4) - (x1 / 4) / 900 * 900))] rfl rfl (Nat.le_of_ble_eq_true rfl) dL_acts_130 (m_Sys_tip hX hG (x1 - x1 / (M.1 a 3) * (M.1 a 3)) (1 + ((x1 / 4) - (x1 / 4) / 900 * 900)) M b hb) ⟨Nat.le_of_ble_eq_true rfl, Nat.le_of_ble_eq_true rfl⟩ ⟨Nat.le_of_ble_eq_true rfl, Nat.le_of_ble_eq_true rfl⟩) (fun x3 M2 => ?_)
                refine zk_pop (pc := 133) B dL_acts_133 rfl ?_
                exact zk_vret (pc := 134) B dL_acts_134 rfl (Nat.le_of_ble_eq_true rfl) (Nat.le_of_ble_eq_true rfl) rfl
set_option maxHeartbeats 4000000 in
set_option maxRecDepth 100000 in
theorem m_Law_isSettled {X : z_X} (hX : z_ok X) {G : z_Gr} {o : Nat} (hG : g_Sys G o) {a : Nat} (ha : g_Law G a) (p1 : Int32) (M : z_Mem) (b : Int32) (h : F_Law_isSettled o a p1 M = some b) : z_Ct X yL_isSettled cL_isSettled 8 (some .boolean) ({ frames := 3, cells := 0, slots := 0, locals := 65 } : Room) [.ref a, .ref o, .int p1] G M (fun o9 G9 M9 => G9 = G ∧ (o9, M9) = (z_ci M) b) := by
  refine z_enter hX (by decide) (Nat.le_of_ble_eq_true rfl) h (fun F B hR => ?_)
  have L11 : ∀ (nf11 : Nat), ∀ (v2 : Int32) (v3 : Int32) (v4 : Int32) (v5 : Int32) (v6 : Int32), z_K X F 8 0 0 G (z_ci M) b 0 0 11 [(0, .ref a), (1, .ref o), (2, .int v2), (3, .int v3), (4, .int v4), (5, .int v5), (6, .int v6)] [] M (F_Law_isSettled_L11 o a nf11 v2 v3 v4 v5 v6 M) := by
    intro nf11
    induction nf11 with
    | zero => intro v2 v3 v4 v5 v6; exact zk_none
    | succ nf11 ih11 =>
      have J116 : ∀ (v2 : Int32) (v3 : Int32) (v4 : Int32) (v5 : Int32) (v6 : Int32) (v7 : Int32), z_K X F 8 0 0 G (z_ci M) b 0 0 116 [(0, .ref a), (1, .ref o), (2, .int v2), (3, .int v3), (4, .int v4), (5, .int v5), (6, .int v6), (7, .int v7)] [] M (F_Law_isSettled_J116 o a (F_Law_isSettled_L11 o a nf11) v2 v3 v4 v5 v6 v7 M) := by
        intro v2 v3 v4 v5 v6 v7
        unfold F_Law_isSettled_J116
        refine zk_iload (pc := 116) B dL_isSettled_116 7 rfl ?_
        refine zk_iconst (v := 3) (pc := 118) B dL_isSettled_118 (by decide) ?_
        refine zk_icmp_ne (tgt := 143) (pc := 119) B dL_isSettled_119 (by decide) (fun _ => ?_) (fun _ => ?_)
        · refine zk_iinc (y := 1) (lf := fun x16 => [(6, .int x16), (0, .ref a), (1, .ref o), (2, .int v2), (3, .int v3), (4, .int v4), (5, .int v5), (7, .int v7)]) (pc := 143) B dL_isSettled_143 6 rfl (by decide) (by decide) (fun _ => rfl) (fun x16 => ?_)
          refine zk_goto (tgt := 11) (pc := 146) B dL_isSettled_146 (by decide) ?_
          refine zk_sub [1, 2, 3, 4, 5, 6, 0] rfl ?_
          exact ih11 v2 v3 v4 v5 x16
        · refine zk_aload_n (pc := 122) B dL_isSettled_122 1 rfl rfl ?_
          refine zk_iload (pc := 123) B dL_isSettled_123 6 rfl ?_
          refine zk_bipush (v := 11) (pc := 125) B dL_isSettled_125 (by decide) ?_
          refine zk_cpi (pc := 127) (k' := 0) (n' := 0) B rfl rfl (Nat.le_of_ble_eq_true rfl) (Nat.le_of_ble_eq_true rfl) (fun b hb => zr_V B hR kV_yX11_ride km_L_146 kx_11 (gSys_s hG) [.int v6, .int 11] rfl rfl (Nat.le_of_ble_eq_true rfl) dL_isSettled_127 (m_Sys_ride hX hG v6 11 M b hb) ⟨Nat.le_of_ble_eq_true rfl, Nat.le_of_ble_eq_true rfl⟩ ⟨Nat.le_of_ble_eq_true rfl, Nat.le_of_ble_eq_true rfl⟩) (fun x17 _ => ?_)
          refine zk_aload_n (pc := 130) B dL_isSettled_130 1 rfl rfl ?_
          refine zk_iload (pc := 131) B dL_isSettled_131 6 rfl ?_
          refine zk_bipush (v := 10) (pc := 133) B dL_isSettled_133 (by decide) ?_
          refine zk_cpi (pc := 135) (k' := 0) (n' := 0) B rfl rfl (Nat.le_of_ble_eq_true rfl) (Nat.le_of_ble_eq_true rfl) (fun b hb => zr_V B hR kV_yX11_ride km_L_146 kx_11 (gSys_s hG) [.int v6, .int 10] rfl rfl (Nat.le_of_ble_eq_true rfl) dL_isSettled_135 (m_Sys_ride hX hG v6 10 M b hb) ⟨Nat.le_of_ble_eq_true rfl, Nat.le_of_ble_eq_true rfl⟩ ⟨Nat.le_of_ble_eq_true rfl, Nat.le_of_ble_eq_true rfl⟩) (fun x18 _ => ?_)
          refine zk_icmp_ge (tgt := 143) (pc := 138) B dL_isSettled_138 (by decide) (fun _ => ?_) (fun _ => ?_)
          · refine zk_iinc (y := 1) (lf := fun x19 => [(6, .int x19), (0, .ref a), (1, .ref o), (2, .int v2), (3, .int v3), (4, .int v4), (5, .int v5), (7, .int v7)]) (pc := 143) B dL_isSettled_143 6 rfl (by decide) (by decide) (fun _ => rfl) (fun x19 => ?_)
            refine zk_goto (tgt := 11) (pc := 146) B dL_isSettled_146 (by decide) ?_
            refine zk_sub [1, 2, 3, 4, 5, 6, 0] rfl ?_
            exact ih11 v2 v3 v4 v5 x19
          · refine zk_iconst (v := 0) (pc := 141) B dL_isSettled_141 (by decide) ?_
            exact zk_iret (pc := 142) B dL_isSettled_142 rfl rfl (Nat.le_of_ble_eq_true rfl) (Nat.le_of_ble_eq_true rfl) rfl
      have J96 : ∀ (v2 : Int32) (v3 : Int32) (v4 : Int32) (v6 : Int32) (v7 : Int32) (s0 : Int32) (s1 : Int32), z_K X F 8 0 0 G (z_ci M) b 0 0 96 [(0, .ref a), (1, .ref o), (2, .int v2), (3, .int v3), (4, .int v4), (6, .int v6), (7, .int v7)] [.int s0, .int s1] M (F_Law_isSettled_J96 o a (F_Law_isSettled_L11 o a nf11) v2 v3 v4 v6 v7 s0 s1 M) := by
        intro v2 v3 v4 v6 v7 s0 s1
        unfold F_Law_isSettled_J96
        refine zk_iadd (pc := 96) B dL_isSettled_96 ?_
        refine zk_li (fun x14 => ?_)
        refine zk_istore (loc' := [(5, .int x14), (0, .ref a), (1, .ref o), (2, .int v2), (3, .int v3), (4, .int v4), (6, .int v6), (7, .int v7)]) (pc := 97) B dL_isSettled_97 (by decide) rfl ?_
        refine zk_iload (pc := 99) B dL_isSettled_99 7 rfl ?_
        refine zk_iconst (v := 2) (pc := 101) B dL_isSettled_101 (by decide) ?_
        refine zk_icmp_ge (tgt := 116) (pc := 102) B dL_isSettled_102 (by decide) (fun _ => ?_) (fun _ => ?_)
        · refine zk_sub [1, 2, 3, 4, 5, 0, 6, 7] rfl ?_
          exact J116 v2 v3 v4 x14 v6 v7
        · refine zk_aload_n (pc := 105) B dL_isSettled_105 2 rfl rfl ?_
          refine zk_iload (pc := 106) B dL_isSettled_106 6 rfl ?_
          refine zk_bipush (v := 12) (pc := 108) B dL_isSettled_108 (by decide) ?_
          refine zk_cpi (pc := 110) (k' := 0) (n' := 0) B rfl rfl (Nat.le_of_ble_eq_true rfl) (Nat.le_of_ble_eq_true rfl) (fun b hb => zr_V B hR kV_yX11_ride km_L_146 kx_11 (gSys_s hG) [.int v6, .int 12] rfl rfl (Nat.le_of_ble_eq_true rfl) dL_isSettled_110 (m_Sys_ride hX hG v6 12 M b hb) ⟨Nat.le_of_ble_eq_true rfl, Nat.le_of_ble_eq_true rfl⟩ ⟨Nat.le_of_ble_eq_true rfl, Nat.le_of_ble_eq_true rfl⟩) (fun x15 _ => ?_)
          refine zk_if_ne (tgt := 141) (pc := 113) B dL_isSettled_113 (by decide) (fun _ => ?_) (fun _ => ?_)
          · refine zk_iconst (v := 0) (pc := 141) B dL_isSettled_141 (by decide) ?_
            exact zk_iret (pc := 142) B dL_isSettled_142 rfl rfl (Nat.le_of_ble_eq_true rfl) (Nat.le_of_ble_eq_true rfl) rfl
          · refine zk_sub [1, 2, 3, 4, 5, 0, 6, 7] rfl ?_
            exact J116 v2 v3 v4 x14 v6 v7
      have J77 : ∀ (v2 : Int32) (v3 : Int32) (v5 : Int32) (v6 : Int32) (v7 : Int32) (s0 : Int32) (s1 : Int32), z_K X F 8 0 0 G (z_ci M) b 0 0 77 [(0, .ref a), (1, .ref o), (2, .int v2), (3, .int v3), (5, .int v5), (6, .int v6), (7, .int v7)] [.int s0, .int s1] M (F_Law_isSettled_J77 o a (F_Law_isSettled_L11 o a nf11) v2 v3 v5 v6 v7 s0 s1 M) := by
        intro v2 v3 v5 v6 v7 s0 s1
        unfold F_Law_isSettled_J77
        refine zk_iadd (pc := 77) B dL_isSettled_77 ?_
        refine zk_li (fun x13 => ?_)
        refine zk_istore (loc' := [(4, .int x13), (0, .ref a), (1, .ref o), (2, .int v2), (3, .int v3), (5, .int v5), (6, .int v6), (7, .int v7)]) (pc := 78) B dL_isSettled_78 (by decide) rfl ?_
        refine zk_iload (pc := 80) B dL_isSettled_80 5 rfl ?_
        refine zk_iload (pc := 82) B dL_isSettled_82 7 rfl ?_
        refine zk_iconst (v := 5) (pc := 84) B dL_isSettled_84 (by decide) ?_
        refine zk_icmp_ne (tgt := 95) (pc := 85) B dL_isSettled_85 (by decide) (fun _ => ?_) (fun _ => ?_)
        · refine zk_iconst (v := 0) (pc := 95) B dL_isSettled_95 (by decide) ?_
          refine zk_sub [1, 2, 3, 4, 0, 6, 7] rfl ?_
          exact J96 v2 v3 x13 v6 v7 0 v5
        · refine zk_aload_n (pc := 88) B dL_isSettled_88 1 rfl rfl ?_
          refine zk_geti (pc := 89) B kx_12 (gLaw_s ha) 5 (by decide) kf_L_61 rfl dL_isSettled_89 ?_
          refine zk_goto (tgt := 96) (pc := 92) B dL_isSettled_92 (by decide) ?_
          refine zk_sub [1, 2, 3, 4, 0, 6, 7] rfl ?_
          exact J96 v2 v3 x13 v6 v7 (M.1 a 5) v5
      have J69 : ∀ (v2 : Int32) (v3 : Int32) (v5 : Int32) (v6 : Int32) (v7 : Int32) (s0 : Int32), z_K X F 8 0 0 G (z_ci M) b 0 0 69 [(0, .ref a), (1, .ref o), (2, .int v2), (3, .int v3), (5, .int v5), (6, .int v6), (7, .int v7)] [.int s0] M (F_Law_isSettled_J69 o a (F_Law_isSettled_L11 o a nf11) v2 v3 v5 v6 v7 s0 M) := by
        intro v2 v3 v5 v6 v7 s0
        unfold F_Law_isSettled_J69
        refine zk_aload_n (pc := 69) B dL_isSettled_69 0 rfl rfl ?_
        refine zk_geti (pc := 70) B kx_12 (gLaw_s ha) 4 (by decide) kf_L_58 rfl dL_isSettled_70 ?_
        refine zk_goto (tgt := 77) (pc := 73) B dL_isSettled_73 (by decide) ?_
        exact J77 v2 v3 v5 v6 v7 (M.1 a 4) s0
      intro v2 v3 v4 v5 v6
      show z_K X F 8 0 0 G (z_ci M) b 0 0 11 [(0, .ref a), (1, .ref o), (2, .int v2), (3, .int v3), (4, .int v4), (5, .int v5), (6, .int v6)] [] M (F_Law_isSettled_B11 o a (F_Law_isSettled_L11 o a nf11) v2 v3 v4 v5 v6 M)
      unfold F_Law_isSettled_B11
      refine zk_iload (pc := 11) B dL_isSettled_11 6 rfl ?_
      refine zk_aload_n (pc := 13) B dL_isSettled_13 0 rfl rfl ?_
      refine zk_geti (pc := 14) B kx_12 (gLaw_s ha) 6 (by decide) kf_L_110 rfl dL_isSettled_14 ?_
      refine zk_icmp_ge (tgt := 149) (pc := 17) B dL_isSettled_17 (by decide) (fun _ => ?_) (fun _ => ?_)
      · refine zk_iload_n (pc := 149) B dL_isSettled_149 3 rfl rfl ?_
        refine zk_iload (pc := 150) B dL_isSettled_150 4 rfl ?_
        refine zk_iload (pc := 152) B dL_isSettled_152 5 rfl ?_
        refine zk_iadd (pc := 154) B dL_isSettled_154 ?_
        refine zk_aload_n (pc := 155) B dL_isSettled_155 1 rfl rfl ?_
        refine zk_iload_n (pc := 156) B dL_isSettled_156 2 rfl rfl ?_
        refine zk_iconst (v := 5) (pc := 157) B dL_isSettled_157 (by decide) ?_
        refine zk_cpi (pc := 158) (k' := 0) (n' := 0) B rfl rfl (Nat.le_of_ble_eq_true rfl) (Nat.le_of_ble_eq_true rfl) (fun b hb => zr_V B hR kV_yX11_account km_L_149 kx_11 (gSys_s hG) [.int v2, .int 5] rfl rfl (Nat.le_of_ble_eq_true rfl) dL_isSettled_158 (m_Sys_account hX hG v2 5 M b hb) ⟨Nat.le_of_ble_eq_true rfl, Nat.le_of_ble_eq_true rfl⟩ ⟨Nat.le_of_ble_eq_true rfl, Nat.le_of_ble_eq_true rfl⟩) (fun x1 _ => ?_)
        refine zk_iadd (pc := 161) B dL_isSettled_161 ?_
        refine zk_icmp_ne (tgt := 182) (pc := 162) B dL_isSettled_162 (by decide) (fun _ => ?_) (fun _ => ?_)
        · refine zk_iconst (v := 0) (pc := 182) B dL_isSettled_182 (by decide) ?_
          exact zk_iret (pc := 183) B dL_isSettled_183 rfl rfl (Nat.le_of_ble_eq_true rfl) (Nat.le_of_ble_eq_true rfl) rfl
        · refine zk_aload_n (pc := 165) B dL_isSettled_165 1 rfl rfl ?_
          refine zk_iload_n (pc := 166) B dL_isSettled_166 2 rfl rfl ?_
          refine zk_iconst (v := 0) (pc := 167) B dL_isSettled_167 (by decide) ?_
          refine zk_cpi (pc := 168) (k' := 0) (n' := 0) B rfl rfl (Nat.le_of_ble_eq_true rfl) (Nat.le_of_ble_eq_true rfl) (fun b hb => zr_V B hR kV_yX11_account km_L_149 kx_11 (gSys_s hG) [.int v2, .int 0] rfl rfl (Nat.le_of_ble_eq_true rfl) dL_isSettled_168 (m_Sys_account hX hG v2 0 M b hb) ⟨Nat.le_of_ble_eq_true rfl, Nat.le_of_ble_eq_true rfl⟩ ⟨Nat.le_of_ble_eq_true rfl, Nat.le_of_ble_eq_true rfl⟩) (fun x2 _ => ?_)
          refine zk_iload_n (pc := 171) B dL_isSettled_171 3 rfl rfl ?_
          refine zk_aload_n (pc := 172) B dL_isSettled_172 1 rfl rfl ?_
          refine zk_iload_n (pc := 173) B dL_isSettled_173 2 rfl rfl ?_
          refine zk_iconst (v := 1) (pc := 174) B dL_isSettled_174 (by decide) ?_
          refine zk_cpi (pc := 175) (k' := 0) (n' := 0) B rfl rfl (Nat.le_of_ble_eq_true rfl) (Nat.le_of_ble_eq_true rfl) (fun b hb => zr_V B hR kV_yX11_account km_L_149 kx_11 (gSys_s hG) [.int v2, .int 1] rfl rfl (Nat.le_of_ble_eq_true rfl) dL_isSettled_175 (m_Sys_account hX hG v2 1 M b hb) ⟨Nat.le_of_ble_eq_true rfl, Nat.le_of_ble_eq_true rfl⟩ ⟨Nat.le_of_ble_eq_true rfl, Nat.le_of_ble_eq_true rfl⟩) (fun x3 _ => ?_)
          refine zk_iadd (pc := 178) B dL_isSettled_178 ?_
          refine zk_icmp_eq (tgt := 184) (pc := 179) B dL_isSettled_179 (by decide) (fun _ => ?_) (fun _ => ?_)
          · refine zk_aload_n (pc := 184) B dL_isSettled_184 1 rfl rfl ?_
            refine zk_iload_n (pc := 185) B dL_isSettled_185 2 rfl rfl ?_
            refine zk_iconst (v := 4) (pc := 186) B dL_isSettled_186 (by decide) ?_
            refine zk_cpi (pc := 187) (k' := 0) (n' := 0) B rfl rfl (Nat.le_of_ble_eq_true rfl) (Nat.le_of_ble_eq_true rfl) (fun b hb => zr_V B hR kV_yX11_account km_L_149 kx_11 (gSys_s hG) [.int v2, .int 4] rfl rfl (Nat.le_of_ble_eq_true rfl) dL_isSettled_187 (m_Sys_account hX hG v2 4 M b hb) ⟨Nat.le_of_ble_eq_true rfl, Nat.le_of_ble_eq_true rfl⟩ ⟨Nat.le_of_ble_eq_true rfl, Nat.le_of_ble_eq_true rfl⟩) (fun x4 _ => ?_)
            refine zk_aload_n (pc := 190) B dL_isSettled_190 1 rfl rfl ?_
            refine zk_iload_n (pc := 191) B dL_isSettled_191 2 rfl rfl ?_
            refine zk_iconst (v := 3) (pc := 192) B dL_isSettled_192 (by decide) ?_
            refine zk_cpi (pc := 193) (k' := 0) (n' := 0) B rfl rfl (Nat.le_of_ble_eq_true rfl) (Nat.le_of_ble_eq_true rfl) (fun b hb => zr_V B hR kV_yX11_account km_L_149 kx_11 (gSys_s hG) [.int v2, .int 3] rfl rfl (Nat.le_of_ble_eq_true rfl) dL_isSettled_193 (m_Sys_account hX hG v2 3 M b hb) ⟨Nat.le_of_ble_eq_true rfl, Nat.le_of_ble_eq_true rfl⟩ ⟨Nat.le_of_ble_eq_true rfl, Nat.le_of_ble_eq_true rfl⟩) (fun x5 _ => ?_)
            refine zk_icmp_gt (tgt := 218) (pc := 196) B dL_isSettled_196 (by decide) (fun _ => ?_) (fun _ => ?_)
            · refine zk_iconst (v := 0) (pc := 218) B dL_isSettled_218 (by decide) ?_
              exact zk_iret (pc := 219) B dL_isSettled_219 rfl rfl (Nat.le_of_ble_eq_true rfl) (Nat.le_of_ble_eq_true rfl) rfl
            · refine zk_aload_n (pc := 199) B dL_isSettled_199 1 rfl rfl ?_
              refine zk_iload_n (pc := 200) B dL_isSettled_200 2 rfl rfl ?_
              refine zk_iconst (v := 3) (pc := 201) B dL_isSettled_201 (by decide) ?_
              refine zk_cpi (pc := 202) (k' := 0) (n' := 0) B rfl rfl (Nat.le_of_ble_eq_true rfl) (Nat.le_of_ble_eq_true rfl) (fun b hb => zr_V B hR kV_yX11_account km_L_149 kx_11 (gSys_s hG) [.int v2, .int 3] rfl rfl (Nat.le_of_ble_eq_true rfl) dL_isSettled_202 (m_Sys_account hX hG v2 3 M b hb) ⟨Nat.le_of_ble_eq_true rfl, Nat.le_of_ble_eq_true rfl⟩ ⟨Nat.le_of_ble_eq_true rfl, Nat.le_of_ble_eq_true rfl⟩) (fun x6 _ => ?_)
              refine zk_aload_n (pc := 205) B dL_isSettled_205 1 rfl rfl ?_
              refine zk_iload_n (pc := 206) B dL_isSettled_206 2 rfl rfl ?_
              refine zk_iconst (v := 2) (pc := 207) B dL_isSettled_207 (by decide) ?_
              refine zk_cpi (pc := 208) (k' := 0) (n' := 0) B rfl rfl (Nat.le_of_ble_eq_true rfl) (Nat.le_of_ble_eq_true rfl) (fun b hb => zr_V B hR kV_yX11_account km_L_149 kx_11 (gSys_s hG) [.int v2, .int 2] rfl rfl (Nat.le_of_ble_eq_true rfl) dL_isSettled_208 (m_Sys_account hX hG v2 2 M b hb) ⟨Nat.le_of_ble_eq_true rfl, Nat.le_of_ble_eq_true rfl⟩ ⟨Nat.le_of_ble_eq_true rfl, Nat.le_of_ble_eq_true rfl⟩) (fun x7 _ => ?_)
              refine zk_icmp_gt (tgt := 218) (pc := 211) B dL_isSettled_211 (by decide) (fun _ => ?_) (fun _ => ?_)
              · refine zk_iconst (v := 0) (pc := 218) B dL_isSettled_218 (by decide) ?_
                exact zk_iret (pc := 219) B dL_isSettled_219 rfl rfl (Nat.le_of_ble_eq_true rfl) (Nat.le_of_ble_eq_true rfl) rfl
              · refine zk_iconst (v := 1) (pc := 214) B dL_isSettled_214 (by decide) ?_
                refine zk_goto (tgt := 219) (pc := 215) B dL_isSettled_215 (by decide) ?_
                exact zk_iret (pc := 219) B dL_isSettled_219 rfl rfl (Nat.le_of_ble_eq_true rfl) (Nat.le_of_ble_eq_true rfl) rfl
          · refine zk_iconst (v := 0) (pc := 182) B dL_isSettled_182 (by decide) ?_
            exact zk_iret (pc := 183) B dL_isSettled_183 rfl rfl (Nat.le_of_ble_eq_true rfl) (Nat.le_of_ble_eq_true rfl) rfl
      · refine zk_aload_n (pc := 20) B dL_isSettled_20 1 rfl rfl ?_
        refine zk_iload (pc := 21) B dL_isSettled_21 6 rfl ?_
        refine zk_bipush (v := 9) (pc := 23) B dL_isSettled_23 (by decide) ?_
        refine zk_cpi (pc := 25) (k' := 0) (n' := 0) B rfl rfl (Nat.le_of_ble_eq_true rfl) (Nat.le_of_ble_eq_true rfl) (fun b hb => zr_V B hR kV_yX11_ride km_L_146 kx_11 (gSys_s hG) [.int v6, .int 9] rfl rfl (Nat.le_of_ble_eq_true rfl) dL_isSettled_25 (m_Sys_ride hX hG v6 9 M b hb) ⟨Nat.le_of_ble_eq_true rfl, Nat.le_of_ble_eq_true rfl⟩ ⟨Nat.le_of_ble_eq_true rfl, Nat.le_of_ble_eq_true rfl⟩) (fun x8 _ => ?_)
        refine zk_iload_n (pc := 28) B dL_isSettled_28 2 rfl rfl ?_
        refine zk_icmp_eq (tgt := 35) (pc := 29) B dL_isSettled_29 (by decide) (fun _ => ?_) (fun _ => ?_)
        · refine zk_aload_n (pc := 35) B dL_isSettled_35 1 rfl rfl ?_
          refine zk_iload (pc := 36) B dL_isSettled_36 6 rfl ?_
          refine zk_iconst (v := 0) (pc := 38) B dL_isSettled_38 (by decide) ?_
          refine zk_cpi (pc := 39) (k' := 0) (n' := 0) B rfl rfl (Nat.le_of_ble_eq_true rfl) (Nat.le_of_ble_eq_true rfl) (fun b hb => zr_V B hR kV_yX11_ride km_L_146 kx_11 (gSys_s hG) [.int v6, .int 0] rfl rfl (Nat.le_of_ble_eq_true rfl) dL_isSettled_39 (m_Sys_ride hX hG v6 0 M b hb) ⟨Nat.le_of_ble_eq_true rfl, Nat.le_of_ble_eq_true rfl⟩ ⟨Nat.le_of_ble_eq_true rfl, Nat.le_of_ble_eq_true rfl⟩) (fun x9 _ => ?_)
          refine zk_istore (loc' := [(7, .int x9), (0, .ref a), (1, .ref o), (2, .int v2), (3, .int v3), (4, .int v4), (5, .int v5), (6, .int v6)]) (pc := 42) B dL_isSettled_42 (by decide) rfl ?_
          refine zk_iload_n (pc := 44) B dL_isSettled_44 4 rfl rfl ?_
          refine zk_aload_n (pc := 45) B dL_isSettled_45 2 rfl rfl ?_
          refine zk_iload (pc := 46) B dL_isSettled_46 7 rfl ?_
          refine zk_bipush (v := 12) (pc := 48) B dL_isSettled_48 (by decide) ?_
          refine zk_cpi (pc := 50) (k' := 0) (n' := 0) B rfl rfl (Nat.le_of_ble_eq_true rfl) (Nat.le_of_ble_eq_true rfl) (fun b hb => zr_V B hR kV_yX11_ride km_L_146 kx_11 (gSys_s hG) [.int v6, .int 12] rfl rfl (Nat.le_of_ble_eq_true rfl) dL_isSettled_50 (m_Sys_ride hX hG v6 12 M b hb) ⟨Nat.le_of_ble_eq_true rfl, Nat.le_of_ble_eq_true rfl⟩ ⟨Nat.le_of_ble_eq_true rfl, Nat.le_of_ble_eq_true rfl⟩) (fun x10 _ => ?_)
          refine zk_iadd (pc := 53) B dL_isSettled_53 ?_
          refine zk_li (fun x11 => ?_)
          refine zk_istore_n (loc' := [(3, .int x11), (7, .int x9), (0, .ref a), (1, .ref o), (2, .int v2), (4, .int v4), (5, .int v5), (6, .int v6)]) (pc := 54) B dL_isSettled_54 rfl (by decide) rfl ?_
          refine zk_iload (pc := 55) B dL_isSettled_55 5 rfl ?_
          refine zk_iload (pc := 57) B dL_isSettled_57 1 rfl ?_
          refine zk_iconst (v := 2) (pc := 59) B dL_isSettled_59 (by decide) ?_
          refine zk_icmp_eq (tgt := 69) (pc := 60) B dL_isSettled_60 (by decide) (fun _ => ?_) (fun _ => ?_)
          · refine zk_sub [2, 3, 4, 0, 6, 7, 1] rfl ?_
            exact J69 v2 x11 v5 v6 x9 v4
          · refine zk_iload (pc := 63) B dL_isSettled_63 1 rfl ?_
            refine zk_iconst (v := 3) (pc := 65) B dL_isSettled_65 (by decide) ?_
            refine zk_icmp_ne (tgt := 76) (pc := 66) B dL_isSettled_66 (by decide) (fun _ => ?_) (fun _ => ?_)
            · refine zk_iconst (v := 0) (pc := 76) B dL_isSettled_76 (by decide) ?_
              refine zk_sub [2, 3, 4, 0, 6, 7, 1] rfl ?_
              exact J77 v2 x11 v5 v6 x9 0 v4
            · refine zk_sub [2, 3, 4, 0, 6, 7, 1] rfl ?_
              exact J69 v2 x11 v5 v6 x9 v4
        · refine zk_goto (tgt := 143) (pc := 32) B dL_isSettled_32 (by decide) ?_
          refine zk_iinc (y := 1) (lf := fun x12 => [(6, .int x12), (0, .ref a), (1, .ref o), (2, .int v2), (3, .int v3), (4, .int v4), (5, .int v5)]) (pc := 143) B dL_isSettled_143 6 rfl (by decide) (by decide) (fun _ => rfl) (fun x12 => ?_)
          refine zk_goto (tgt := 11) (pc := 146) B dL_isSettled_146 (by decide) ?_
          refine zk_sub [1, 2, 3, 4, 5, 6, 0] rfl ?_
          exact ih11 v2 v3 v4 v5 x12
  show z_K X F 8 0 0 G (z_ci M) b 0 0 0 [(0, .ref a), (1, .ref o), (2, .int p1)] [] M (F_Law_isSettled o a p1 M)
  unfold F_Law_isSettled
  refine zk_iconst (v := 0) (pc := 0) B dL_isSettled_0 (by decide) ?_
  refine zk_istore_n (loc' := [(3, .int 0), (0, .ref a), (1, .ref o), (2, .int p1)]) (pc := 1) B dL_isSettled_1 rfl (by decide) rfl ?_
  refine zk_iconst (v := 0) (pc := 2) B dL_isSettled_2 (by decide) ?_
  refine zk_istore (loc' := [(4, .int 0), (3, .int 0), (0, .ref a), (1, .ref o), (2, .int p1)]) (pc := 3) B dL_isSettled_3 (by decide) rfl ?_
  refine zk_iconst (v := 0) (pc := 5) B dL_isSettled_5 (by decide) ?_
  refine zk_istore (loc' := [(5, .int 0), (4, .int 0), (3, .int 0), (0, .ref a), (1, .ref o), (2, .int p1)]) (pc := 6) B dL_isSettled_6 (by decide) rfl ?_
  refine zk_iconst (v := 0) (pc := 8) B dL_isSettled_8 (by decide) ?_
  refine zk_istore (loc' := [(6, .int 0), (5, .int 0), (4, .int 0), (3, .int 0), (0, .ref a), (1, .ref o), (2, .int p1)]) (pc := 9) B dL_isSettled_9 (by decide) rfl ?_
  refine zk_sub [4, 5, 6, 3, 2, 1, 0] rfl ?_
  exact L11 10000 p1 0 0 0 0
set_option maxHeartbeats 4000000 in
set_option maxRecDepth 100000 in
theorem m_Law_holds {X : z_X} (hX : z_ok X) {G : z_Gr} {b9 L9 : Nat} {S9 : Nat → Int32} (hx9 : va_X b9 L9 S9 X.2.1 X.2.1.heap) (hb9 : b9 < z_o X) {o : Nat} (hG : g_Sys G o) {a : Nat} (ha : g_Law G a) (M : z_Mem) (b : Int32 × z_Mem) (h : F_Law_holds L9 S9 o a M = some b) : z_Ct X yL_holds cL_holds 5 (some .boolean) ({ frames := 9, cells := 0, slots := 0, locals := 236 } : Room) [.ref a, .ref o, .ref b9] G M (fun o9 G9 M9 => G9 = G ∧ (o9, M9) = z_cim b) := by
  refine z_enter hX (by decide) (Nat.le_of_ble_eq_true rfl) h (fun F B hR => ?_)
  have L2 : ∀ (nf2 : Nat), ∀ (v3 : Int32) (M : z_Mem), z_K X F 5 0 0 G z_cim b 0 0 2 [(0, .ref a), (1, .ref o), (2, .ref b9), (3, .int v3)] [] M (F_Law_holds_L2 L9 S9 o a nf2 v3 M) := by
    intro nf2
    induction nf2 with
    | zero => intro v3 M; exact zk_none
    | succ nf2 ih2 =>
      have L21 : ∀ (nf21 : Nat), ∀ (v3 : Int32) (v4 : Int32) (M : z_Mem), z_K X F 5 0 0 G z_cim b 0 0 21 [(0, .ref a), (1, .ref o), (2, .ref b9), (3, .int v3), (4, .int v4)] [] M (F_Law_holds_L21 L9 S9 o a (F_Law_holds_L2 L9 S9 o a nf2) nf21 v3 v4 M) := by
        intro nf21
        induction nf21 with
        | zero => intro v3 v4 M; exact zk_none
        | succ nf21 ih21 =>
          intro v3 v4 M
          show z_K X F 5 0 0 G z_cim b 0 0 21 [(0, .ref a), (1, .ref o), (2, .ref b9), (3, .int v3), (4, .int v4)] [] M (F_Law_holds_B21 L9 S9 o a (F_Law_holds_L2 L9 S9 o a nf2) (F_Law_holds_L21 L9 S9 o a (F_Law_holds_L2 L9 S9 o a nf2) nf21) v3 v4 M)
          unfold F_Law_holds_B21
          refine zk_iload (pc := 21) B dL_holds_21 4 rfl ?_
          refine zk_aload_n (pc := 23) B dL_holds_23 0 rfl rfl ?_
          refine zk_geti (pc := 24) B kx_12 (gLaw_s ha) 3 (by decide) kf_L_55 rfl dL_holds_24 ?_
          refine zk_icmp_ge (tgt := 48) (pc := 27) B dL_holds_27 (by decide) (fun _ => ?_) (fun _ => ?_)
          · refine zk_iinc (y := 1) (lf := fun x3 => [(3, .int x3), (0, .ref a), (1, .ref o), (2, .ref b9), (4, .int v4)]) (pc := 48) B dL_holds_48 3 rfl (by decide) (by decide) (fun _ => rfl) (fun x3 => ?_)
            refine zk_goto (tgt := 2) (pc := 51) B dL_holds_51 (by decide) ?_
            refine zk_sub [1, 2, 3, 0] rfl ?_
            exact ih2 x3 M
          · refine zk_aload_n (pc := 30) B dL_holds_30 0 rfl rfl ?_
            refine zk_aload_n (pc := 31) B dL_holds_31 1 rfl rfl ?_
            refine zk_iload (pc := 32) B dL_holds_32 4 rfl ?_
            refine zk_cpi (pc := 34) (k' := 0) (n' := 0) B rfl rfl (Nat.le_of_ble_eq_true rfl) (Nat.le_of_ble_eq_true rfl) (fun b hb => zr_V B hR kV_yL_isSettled km_L_126 kx_12 (gLaw_s ha) [.ref o, .int v4] rfl rfl (Nat.le_of_ble_eq_true rfl) dL_holds_34 (m_Law_isSettled hX hG ha v4 M b hb) ⟨Nat.le_of_ble_eq_true rfl, Nat.le_of_ble_eq_true rfl⟩ ⟨Nat.le_of_ble_eq_true rfl, Nat.le_of_ble_eq_true rfl⟩) (fun x4 _ => ?_)
            refine zk_if_ne (tgt := 42) (pc := 37) B dL_holds_37 (by decide) (fun _ => ?_) (fun _ => ?_)
            · refine zk_iinc (y := 1) (lf := fun x5 => [(4, .int x5), (0, .ref a), (1, .ref o), (2, .ref b9), (3, .int v3)]) (pc := 42) B dL_holds_42 4 rfl (by decide) (by decide) (fun _ => rfl) (fun x5 => ?_)
              refine zk_goto (tgt := 21) (pc := 45) B dL_holds_45 (by decide) ?_
              refine zk_sub [1, 2, 3, 4, 0] rfl ?_
              exact ih21 v3 x5 M
            · refine zk_iconst (v := 0) (pc := 40) B dL_holds_40 (by decide) ?_
              exact zk_iret (pc := 41) B dL_holds_41 rfl rfl (Nat.le_of_ble_eq_true rfl) (Nat.le_of_ble_eq_true rfl) rfl
      intro v3 M
      show z_K X F 5 0 0 G z_cim b 0 0 2 [(0, .ref a), (1, .ref o), (2, .ref b9), (3, .int v3)] [] M (F_Law_holds_B2 L9 S9 o a (F_Law_holds_L2 L9 S9 o a nf2) v3 M)
      unfold F_Law_holds_B2
      refine zk_iload_n (pc := 2) B dL_holds_2 3 rfl rfl ?_
      refine zk_bipush (v := 30) (pc := 3) B dL_holds_3 (by decide) ?_
      refine zk_icmp_ge (tgt := 54) (pc := 5) B dL_holds_5 (by decide) (fun _ => ?_) (fun _ => ?_)
      · refine zk_iconst (v := 1) (pc := 54) B dL_holds_54 (by decide) ?_
        exact zk_iret (pc := 55) B dL_holds_55 rfl rfl (Nat.le_of_ble_eq_true rfl) (Nat.le_of_ble_eq_true rfl) rfl
      · refine zk_aload_n (pc := 8) B dL_holds_8 0 rfl rfl ?_
        refine zk_aload_n (pc := 9) B dL_holds_9 1 rfl rfl ?_
        refine zk_aload_n (pc := 10) B dL_holds_10 2 rfl rfl ?_
        refine zk_iload_n (pc := 11) B dL_holds_11 3 rfl rfl ?_
        refine zk_cpi (pc := 12) (k' := 0) (n' := 0) B rfl rfl (Nat.le_of_ble_eq_true rfl) (Nat.le_of_ble_eq_true rfl) (fun b hb => zr_S B hR kS_yL_cell km_L_48 [.ref b9, .int v3] rfl rfl (Nat.le_of_ble_eq_true rfl) dL_holds_12 (m_Law_cell hX hx9 hb9 v3 M b hb) ⟨Nat.le_of_ble_eq_true rfl, Nat.le_of_ble_eq_true rfl⟩ ⟨Nat.le_of_ble_eq_true rfl, Nat.le_of_ble_eq_true rfl⟩) (fun x1 _ => ?_)
        refine zk_cvm (pc := 15) (k' := 0) (n' := 0) B rfl rfl (Nat.le_of_ble_eq_true rfl) (Nat.le_of_ble_eq_true rfl) (fun b hb => zr_V B hR kV_yL_acts km_L_122 kx_12 (gLaw_s ha) [.ref o, .int x1] rfl rfl (Nat.le_of_ble_eq_true rfl) dL_holds_15 (m_Law_acts hX hG ha x1 M b hb) ⟨Nat.le_of_ble_eq_true rfl, Nat.le_of_ble_eq_true rfl⟩ ⟨Nat.le_of_ble_eq_true rfl, Nat.le_of_ble_eq_true rfl⟩) (fun M2 => ?_)
        refine zk_iconst (v := 0) (pc := 18) B dL_holds_18 (by decide) ?_
        refine zk_istore (loc' := [(4, .int 0), (0, .ref a), (1, .ref o), (2, .ref b9), (3, .int v3)]) (pc := 19) B dL_holds_19 (by decide) rfl ?_
        refine zk_sub [1, 2, 3, 4, 0] rfl ?_
        exact L21 10000 v3 0 M2
  show z_K X F 5 0 0 G z_cim b 0 0 0 [(0, .ref a), (1, .ref o), (2, .ref b9)] [] M (F_Law_holds L9 S9 o a M)
  unfold F_Law_holds
  refine zk_iconst (v := 2) (pc := 0) B dL_holds_0 (by decide) ?_
  refine zk_istore_n (loc' := [(3, .int 2), (0, .ref a), (1, .ref o), (2, .ref b9)]) (pc := 1) B dL_holds_1 rfl (by decide) rfl ?_
  refine zk_sub [1, 2, 3, 0] rfl ?_
  exact L2 10000 2 M
