/-! ===== the constructors (by program) ===== -/
theorem kn_0 : Cond.instantiable RX0 8 ∈ z_tbl := z_in 96 (by decide +kernel) rfl
theorem kT_0 : ∀ j, j < 8 → z_okT (z_ty 0 j) = true := by decide
theorem kn_1 : Cond.instantiable RX1 3 ∈ z_tbl := z_in 335 (by decide +kernel) rfl
theorem kT_1 : ∀ j, j < 3 → z_okT (z_ty 1 j) = true := by decide
theorem kn_2 : Cond.instantiable RX2 6 ∈ z_tbl := z_in 395 (by decide +kernel) rfl
theorem kT_2 : ∀ j, j < 6 → z_okT (z_ty 2 j) = true := by decide
theorem kn_3 : Cond.instantiable RX3 11 ∈ z_tbl := z_in 354 (by decide +kernel) rfl
theorem kT_3 : ∀ j, j < 11 → z_okT (z_ty 3 j) = true := by decide
theorem kn_4 : Cond.instantiable RX4 2 ∈ z_tbl := z_in 510 (by decide +kernel) rfl
theorem kT_4 : ∀ j, j < 2 → z_okT (z_ty 4 j) = true := by decide
theorem kn_5 : Cond.instantiable RX5 19 ∈ z_tbl := z_in 191 (by decide +kernel) rfl
theorem kT_5 : ∀ j, j < 19 → z_okT (z_ty 5 j) = true := by decide
theorem kn_6 : Cond.instantiable RX6 17 ∈ z_tbl := z_in 105 (by decide +kernel) rfl
theorem kT_6 : ∀ j, j < 17 → z_okT (z_ty 6 j) = true := by decide
theorem kn_7 : Cond.instantiable RX7 3 ∈ z_tbl := z_in 488 (by decide +kernel) rfl
theorem kT_7 : ∀ j, j < 3 → z_okT (z_ty 7 j) = true := by decide
theorem kn_8 : Cond.instantiable RX8 11 ∈ z_tbl := z_in 446 (by decide +kernel) rfl
theorem kT_8 : ∀ j, j < 11 → z_okT (z_ty 8 j) = true := by decide
theorem kn_9 : Cond.instantiable RX9 3 ∈ z_tbl := z_in 75 (by decide +kernel) rfl
theorem kT_9 : ∀ j, j < 3 → z_okT (z_ty 9 j) = true := by decide
theorem kn_10 : Cond.instantiable RX10 4 ∈ z_tbl := z_in 425 (by decide +kernel) rfl
theorem kT_10 : ∀ j, j < 4 → z_okT (z_ty 10 j) = true := by decide
theorem kn_11 : Cond.instantiable RX11 16 ∈ z_tbl := z_in 67 (by decide +kernel) rfl
theorem kT_11 : ∀ j, j < 16 → z_okT (z_ty 11 j) = true := by decide
theorem kn_12 : Cond.instantiable RL 7 ∈ z_tbl := z_in 582 (by decide +kernel) rfl
theorem kT_12 : ∀ j, j < 7 → z_okT (z_ty 12 j) = true := by decide
theorem ka_int : Cond.arrayClass .int ∈ z_tbl := z_in 94 (by decide +kernel) rfl
theorem ka_byte : Cond.arrayClass .byte ∈ z_tbl := z_in 93 (by decide +kernel) rfl
theorem ko_i : Cond.instanceMethod objectInit ∈ z_tbl := z_in 72 (by decide +kernel) rfl
theorem ko_c : Cond.code objectInit ⟨#[0xb1]⟩ 1 none ∈ z_tbl := z_in 73 (by decide +kernel) rfl
theorem gN_1 {g : z_Gr} {t q : Nat} {sh : z_Sh} (h : q < t) : (gN g t sh).1 q = g.1 q := if_neg (by omega)
theorem gP_2 {g : z_Gr} {r k b q : Nat} (h : q ≠ r) : (gP g r k b).2 q = g.2 q := funext fun j => if_neg (by omega)
theorem zn_cast {X : z_X} {F : z_F} {nL : Nat} {Q : State → Prop} {k k' n n' pc t t' : Nat} {loc : List (Nat × Value)} {st : List Value} {g : z_Gr} {M : z_Mem} (hk : k = k') (hn : n = n') (ht : t = t') (kk : z_N X F nL Q k' n' pc loc st g t' M) : z_N X F nL Q k n pc loc st g t M := by
  subst hk; subst hn; subst ht
  exact kk
def f_Ride (g : z_Gr) (r t : Nat) : z_Gr := g
set_option maxRecDepth 100000 in
theorem c_Ride {X : z_X} (hX : z_ok X) (hC : z_okC X) {g : z_Gr} {t : Nat} {M : z_Mem} {r : Nat} (hg : g.1 r = some (.inl 5)) (hr : r < t) : z_CtN X yX5_init cX5_init 1 ({ frames := 1, cells := 0, slots := 0, locals := 12 } : Room) [.ref (z_o X + r)] g t M (f_Ride g r t) (t + 0) M := by
  refine z_enterN hX (by decide) rfl (Nat.le_of_ble_eq_true rfl) (fun F B hR hi => ?_)
  show z_N X F 1 _ 0 0 0 [(0, .ref (z_o X + r))] [] g t M
  refine zn_aload_n (pc := 0) B dX5_init_0 0 rfl rfl ?_
  refine zn_oinit (pc := 1) B hR km_5_3 dX5_init_1 (Nat.le_of_ble_eq_true rfl) (Nat.le_of_ble_eq_true rfl) ko_i ko_c ?_
  exact zn_vret (pc := 4) B dX5_init_4 rfl (Nat.le_of_ble_eq_true rfl) (Nat.le_of_ble_eq_true rfl) rfl rfl rfl
theorem f_Ride_1 {g : z_Gr} {r t q : Nat} (h : q < t) : (f_Ride g r t).1 q = g.1 q := rfl
theorem f_Ride_2 {g : z_Gr} {r t q : Nat} (h : q < t) (hne : q ≠ r) : (f_Ride g r t).2 q = g.2 q := rfl
def f_Taxi (g : z_Gr) (r t : Nat) : z_Gr := (gP (gN (gP (gN g t (.inr (0, 12))) r 9 t) (t + 1) (.inr (0, 6))) r 10 (t + 1))
set_option maxRecDepth 100000 in
theorem c_Taxi {X : z_X} (hX : z_ok X) (hC : z_okC X) {g : z_Gr} {t : Nat} {M : z_Mem} {r : Nat} (hg : g.1 r = some (.inl 6)) (hr : r < t) : z_CtN X yX6_init cX6_init 1 ({ frames := 1, cells := 2, slots := 18, locals := 12 } : Room) [.ref (z_o X + r)] g t M (f_Taxi g r t) (t + 2) M := by
  refine z_enterN hX (by decide) rfl (Nat.le_of_ble_eq_true rfl) (fun F B hR hi => ?_)
  show z_N X F 1 _ 0 0 0 [(0, .ref (z_o X + r))] [] g t M
  refine zn_aload_n (pc := 0) B dX6_init_0 0 rfl rfl ?_
  refine zn_oinit (pc := 1) B hR km_6_3 dX6_init_1 (Nat.le_of_ble_eq_true rfl) (Nat.le_of_ble_eq_true rfl) ko_i ko_c ?_
  refine zn_aload_n (pc := 4) B dX6_init_4 0 rfl rfl ?_
  refine zn_bipush (v := 12) (pc := 5) B dX6_init_5 (by decide) ?_
  refine zn_newI (pc := 7) (N := 12) B hR ka_int (by decide) (by decide) (by decide) (Nat.le_of_ble_eq_true rfl) (Nat.le_of_ble_eq_true rfl) dX6_init_7 ?_
  refine zn_putf (pc := 9) B kx_6 (gN_k hg (by omega)) (by omega) 9 (by decide) kf_6_9 rfl rfl hi rfl (fun _ => rfl) (fun _ => rfl) dX6_init_9 ?_
  refine zn_aload_n (pc := 12) B dX6_init_12 0 rfl rfl ?_
  refine zn_bipush (v := 6) (pc := 13) B dX6_init_13 (by decide) ?_
  refine zn_newI (pc := 15) (N := 6) B hR ka_int (by decide) (by decide) (by decide) (Nat.le_of_ble_eq_true rfl) (Nat.le_of_ble_eq_true rfl) dX6_init_15 ?_
  refine zn_putf (pc := 17) B kx_6 (gN_k (gP_k (gN_k hg (by omega))) (by omega)) (by omega) 10 (by decide) kf_6_15 rfl rfl hi rfl (fun _ => rfl) (fun _ => rfl) dX6_init_17 ?_
  exact zn_vret (pc := 20) B dX6_init_20 rfl (Nat.le_of_ble_eq_true rfl) (Nat.le_of_ble_eq_true rfl) rfl rfl rfl
theorem f_Taxi_1 {g : z_Gr} {r t q : Nat} (h : q < t) : (f_Taxi g r t).1 q = g.1 q := Eq.trans (rfl) (Eq.trans (gN_1 (by omega)) (Eq.trans (rfl) (gN_1 (by omega))))
theorem f_Taxi_2 {g : z_Gr} {r t q : Nat} (h : q < t) (hne : q ≠ r) : (f_Taxi g r t).2 q = g.2 q := Eq.trans (gP_2 (by omega)) (Eq.trans (rfl) (Eq.trans (gP_2 (by omega)) (rfl)))
def f_Town (g : z_Gr) (r t : Nat) : z_Gr := (gP (gN g t (.inr (0, 64))) r 2 t)
set_option maxRecDepth 100000 in
theorem c_Town {X : z_X} (hX : z_ok X) (hC : z_okC X) {g : z_Gr} {t : Nat} {M : z_Mem} {r : Nat} (hg : g.1 r = some (.inl 9)) (hr : r < t) : z_CtN X yX9_init cX9_init 1 ({ frames := 1, cells := 1, slots := 64, locals := 12 } : Room) [.ref (z_o X + r)] g t M (f_Town g r t) (t + 1) M := by
  refine z_enterN hX (by decide) rfl (Nat.le_of_ble_eq_true rfl) (fun F B hR hi => ?_)
  show z_N X F 1 _ 0 0 0 [(0, .ref (z_o X + r))] [] g t M
  refine zn_aload_n (pc := 0) B dX9_init_0 0 rfl rfl ?_
  refine zn_oinit (pc := 1) B hR km_9_3 dX9_init_1 (Nat.le_of_ble_eq_true rfl) (Nat.le_of_ble_eq_true rfl) ko_i ko_c ?_
  refine zn_aload_n (pc := 4) B dX9_init_4 0 rfl rfl ?_
  refine zn_bipush (v := 64) (pc := 5) B dX9_init_5 (by decide) ?_
  refine zn_newI (pc := 7) (N := 64) B hR ka_int (by decide) (by decide) (by decide) (Nat.le_of_ble_eq_true rfl) (Nat.le_of_ble_eq_true rfl) dX9_init_7 ?_
  refine zn_putf (pc := 9) B kx_9 (gN_k hg (by omega)) (by omega) 2 (by decide) kf_9_9 rfl rfl hi rfl (fun _ => rfl) (fun _ => rfl) dX9_init_9 ?_
  exact zn_vret (pc := 12) B dX9_init_12 rfl (Nat.le_of_ble_eq_true rfl) (Nat.le_of_ble_eq_true rfl) rfl rfl rfl
theorem f_Town_1 {g : z_Gr} {r t q : Nat} (h : q < t) : (f_Town g r t).1 q = g.1 q := Eq.trans (rfl) (gN_1 (by omega))
theorem f_Town_2 {g : z_Gr} {r t q : Nat} (h : q < t) (hne : q ≠ r) : (f_Town g r t).2 q = g.2 q := Eq.trans (gP_2 (by omega)) (rfl)
def f_Law (g : z_Gr) (r t : Nat) : z_Gr := (gP (gN g t (.inr (0, 800))) r 0 t)
set_option maxRecDepth 100000 in
theorem c_Law {X : z_X} (hX : z_ok X) (hC : z_okC X) {g : z_Gr} {t : Nat} {M : z_Mem} {r : Nat} (hg : g.1 r = some (.inl 12)) (hr : r < t) : z_CtN X yL_init cL_init 1 ({ frames := 1, cells := 1, slots := 800, locals := 12 } : Room) [.ref (z_o X + r)] g t M (f_Law g r t) (t + 1) M := by
  refine z_enterN hX (by decide) rfl (Nat.le_of_ble_eq_true rfl) (fun F B hR hi => ?_)
  show z_N X F 1 _ 0 0 0 [(0, .ref (z_o X + r))] [] g t M
  refine zn_aload_n (pc := 0) B dL_init_0 0 rfl rfl ?_
  refine zn_oinit (pc := 1) B hR km_L_1 dL_init_1 (Nat.le_of_ble_eq_true rfl) (Nat.le_of_ble_eq_true rfl) ko_i ko_c ?_
  refine zn_aload_n (pc := 4) B dL_init_4 0 rfl rfl ?_
  refine zn_sipush (v := 800) (pc := 5) B dL_init_5 (by decide) ?_
  refine zn_newI (pc := 8) (N := 800) B hR ka_int (by decide) (by decide) (by decide) (Nat.le_of_ble_eq_true rfl) (Nat.le_of_ble_eq_true rfl) dL_init_8 ?_
  refine zn_putf (pc := 10) B kx_12 (gN_k hg (by omega)) (by omega) 0 (by decide) kf_L_7 rfl rfl hi rfl (fun _ => rfl) (fun _ => rfl) dL_init_10 ?_
  exact zn_vret (pc := 13) B dL_init_13 rfl (Nat.le_of_ble_eq_true rfl) (Nat.le_of_ble_eq_true rfl) rfl rfl rfl
theorem f_Law_1 {g : z_Gr} {r t q : Nat} (h : q < t) : (f_Law g r t).1 q = g.1 q := Eq.trans (rfl) (gN_1 (by omega))
theorem f_Law_2 {g : z_Gr} {r t q : Nat} (h : q < t) (hne : q ≠ r) : (f_Law g r t).2 q = g.2 q := Eq.trans (gP_2 (by omega)) (rfl)
theorem z_i24 : ∀ i, i < 24 → (Int32.ofNat i).toNatClampNeg = i ∧ ¬ (Int32.ofNat i < 0) ∧ Int32.ofNat i + Int32.ofInt 1 = Int32.ofNat (i + 1) ∧ ¬ ((24 : Int32) ≤ Int32.ofNat i) := by decide
theorem z_i4 : ∀ i, i < 4 → ¬ ((4 : Int32) ≤ Int32.ofNat i) := by decide
theorem z_i10 : ∀ i, i < 10 → ¬ ((10 : Int32) ≤ Int32.ofNat i) := by decide
def f_taxis (g : z_Gr) (ra t : Nat) : Nat → z_Gr
  | 0 => g
  | i + 1 => gP (f_Taxi (gN (f_taxis g ra t i) (t + 3 * i) (.inl 6)) (t + 3 * i) (t + 3 * i + 1)) ra i (t + 3 * i)
theorem f_taxis_1 {g : z_Gr} {ra t q : Nat} (h : q < t) (i : Nat) : (f_taxis g ra t i).1 q = g.1 q := by
  induction i with
  | zero => rfl
  | succ i ih => exact Eq.trans (f_Taxi_1 (g := gN (f_taxis g ra t i) (t + 3 * i) (.inl 6)) (r := t + 3 * i) (t := t + 3 * i + 1) (by omega)) (Eq.trans (gN_1 (by omega)) ih)
theorem f_taxis_2 {g : z_Gr} {ra t q : Nat} (h : q < t) (hne : q ≠ ra) (i : Nat) : (f_taxis g ra t i).2 q = g.2 q := by
  induction i with
  | zero => rfl
  | succ i ih => exact Eq.trans (gP_2 hne) (Eq.trans (f_Taxi_2 (g := gN (f_taxis g ra t i) (t + 3 * i) (.inl 6)) (r := t + 3 * i) (t := t + 3 * i + 1) (by omega) (by omega)) ih)
set_option maxRecDepth 100000 in
theorem q_f_taxis {X : z_X} (hX : z_ok X) (hC : z_okC X) {F : z_F} (B : z_B X F RX0 cX0_init 2 none) (hR : F.2.2.1 = ({ frames := 2, cells := 39, slots := 634, locals := 32 } : Room)) {Q : State → Prop} {g : z_Gr} {r ra t : Nat} {M : z_Mem} (hth : g.1 r = some (.inl 0)) (hra : g.1 ra = some (.inr (3, 4))) (hfl : g.2 r 6 = some ra) (h1 : r < t) (h2 : ra < t) (h3 : r ≠ ra)
    (kk : z_N X F 2 Q (3 + 3 * 4) (38 + 35 * 4) 55 [(1, .int 4), (0, .ref (z_o X + r))] [] (f_taxis g ra t 4) (t + 3 * 4) M) : ∀ j i : Nat, i + j = 4 → z_N X F 2 Q (3 + 3 * i) (38 + 35 * i) 31 [(1, .int (Int32.ofNat i)), (0, .ref (z_o X + r))] [] (f_taxis g ra t i) (t + 3 * i) M := by
  intro j
  induction j with
  | zero =>
    intro i hi
    have hi4 : i = 4 := by omega
    subst hi4
    refine zn_iload_n (pc := 31) B dX0_init_31 0 rfl rfl ?_
    refine zn_iconst (v := 4) (pc := 32) B dX0_init_32 (by decide) ?_
    exact zn_icmp_ge (tgt := 55) (pc := 33) B dX0_init_33 (by decide) (fun _ => kk) (fun h => absurd (by decide) h)
  | succ j ih =>
    intro i hi
    have hiN : i < 4 := by omega
    obtain ⟨e1, e2, e3, -⟩ := z_i24 i (by omega)
    have pth : (f_taxis g ra t i).1 r = some (.inl 0) := (f_taxis_1 h1 i).trans hth
    have pra : (f_taxis g ra t i).1 ra = some (.inr (3, 4)) := (f_taxis_1 h2 i).trans hra
    have pfl : (f_taxis g ra t i).2 r 6 = some ra := (congrFun (f_taxis_2 h1 h3 i) 6).trans hfl
    refine zn_iload_n (pc := 31) B dX0_init_31 0 rfl rfl ?_
    refine zn_iconst (v := 4) (pc := 32) B dX0_init_32 (by decide) ?_
    refine zn_icmp_ge (tgt := 55) (pc := 33) B dX0_init_33 (by decide) (fun h => absurd h (z_i4 i hiN)) (fun _ => ?_)
    refine zn_aload_n (pc := 36) B dX0_init_36 1 rfl rfl ?_
    refine zn_getr (pc := 37) (b := ra) B kx_0 pth 6 (by decide) kf_0_17 rfl pfl dX0_init_37 ?_
    refine zn_iload_n (pc := 40) B dX0_init_40 0 rfl rfl ?_
    refine zn_new (pc := 41) B hR kx_6 kk_0_15 kn_6 ki_6 (by show 3 + 3 * i + 1 ≤ 39; omega) (by show 38 + 35 * i + 17 ≤ 634; omega) kT_6 dX0_init_41 ?_
    refine zn_dup (pc := 44) B dX0_init_44 rfl ?_
    refine zn_run (pc := 45) rfl rfl rfl (zr_IN (own := RX0) (host := RX11) B hC hR 0 kI_yX6_init ki_6 rfl (by decide +kernel) (by simp [z_nct]) [] rfl rfl (Nat.le_of_ble_eq_true rfl) dX0_init_45 (c_Taxi hX hC (g := gN (f_taxis g ra t i) (t + 3 * i) (.inl 6)) (t := t + 3 * i + 1) (M := M) (r := t + 3 * i) gN_n (by omega)) ⟨(Nat.le_of_ble_eq_true rfl), (Nat.le_of_ble_eq_true rfl)⟩ ⟨by show 3 + 3 * i + 1 + 2 ≤ 39; omega, by show 38 + 35 * i + 17 + 18 ≤ 634; omega⟩) ?_
    refine zn_aast (pc := 48) (kd := 3) (N := 4) (ci := 6) B kx_6 (by decide) (by decide) rfl ((f_Taxi_1 (g := gN (f_taxis g ra t i) (t + 3 * i) (.inl 6)) (r := t + 3 * i) (t := t + 3 * i + 1) (by omega)).trans (gN_k pra (by omega))) (by omega) ((f_Taxi_1 (g := gN (f_taxis g ra t i) (t + 3 * i) (.inl 6)) (r := t + 3 * i) (t := t + 3 * i + 1) (by omega)).trans gN_n) e1 e2 hiN dX0_init_48 ?_
    refine zn_iinc (pc := 49) B dX0_init_49 0 rfl e3 (by decide) rfl ?_
    refine zn_goto (tgt := 31) (pc := 52) B dX0_init_52 (by decide) ?_
    exact zn_cast (by show 3 + 3 * i + 1 + 2 = 3 + 3 * (i + 1); omega) (by show 38 + 35 * i + 17 + 18 = 38 + 35 * (i + 1); omega) (by show t + 3 * i + 1 + 2 = t + 3 * (i + 1); omega) (ih (i + 1) (by omega))
def f_rides (g : z_Gr) (ra t : Nat) : Nat → z_Gr
  | 0 => g
  | i + 1 => gP (f_Ride (gN (f_rides g ra t i) (t + 1 * i) (.inl 5)) (t + 1 * i) (t + 1 * i + 1)) ra i (t + 1 * i)
theorem f_rides_1 {g : z_Gr} {ra t q : Nat} (h : q < t) (i : Nat) : (f_rides g ra t i).1 q = g.1 q := by
  induction i with
  | zero => rfl
  | succ i ih => exact Eq.trans (f_Ride_1 (g := gN (f_rides g ra t i) (t + 1 * i) (.inl 5)) (r := t + 1 * i) (t := t + 1 * i + 1) (by omega)) (Eq.trans (gN_1 (by omega)) ih)
theorem f_rides_2 {g : z_Gr} {ra t q : Nat} (h : q < t) (hne : q ≠ ra) (i : Nat) : (f_rides g ra t i).2 q = g.2 q := by
  induction i with
  | zero => rfl
  | succ i ih => exact Eq.trans (gP_2 hne) (Eq.trans (f_Ride_2 (g := gN (f_rides g ra t i) (t + 1 * i) (.inl 5)) (r := t + 1 * i) (t := t + 1 * i + 1) (by omega) (by omega)) ih)
set_option maxRecDepth 100000 in
theorem q_f_rides {X : z_X} (hX : z_ok X) (hC : z_okC X) {F : z_F} (B : z_B X F RX0 cX0_init 2 none) (hR : F.2.2.1 = ({ frames := 2, cells := 39, slots := 634, locals := 32 } : Room)) {Q : State → Prop} {g : z_Gr} {r ra t : Nat} {M : z_Mem} (hth : g.1 r = some (.inl 0)) (hra : g.1 ra = some (.inr (4, 24))) (hfl : g.2 r 7 = some ra) (h1 : r < t) (h2 : ra < t) (h3 : r ≠ ra)
    (kk : z_N X F 2 Q (15 + 1 * 24) (178 + 19 * 24) 82 [(1, .int 24), (0, .ref (z_o X + r))] [] (f_rides g ra t 24) (t + 1 * 24) M) : ∀ j i : Nat, i + j = 24 → z_N X F 2 Q (15 + 1 * i) (178 + 19 * i) 57 [(1, .int (Int32.ofNat i)), (0, .ref (z_o X + r))] [] (f_rides g ra t i) (t + 1 * i) M := by
  intro j
  induction j with
  | zero =>
    intro i hi
    have hi4 : i = 24 := by omega
    subst hi4
    refine zn_iload_n (pc := 57) B dX0_init_57 0 rfl rfl ?_
    refine zn_bipush (v := 24) (pc := 58) B dX0_init_58 (by decide) ?_
    exact zn_icmp_ge (tgt := 82) (pc := 60) B dX0_init_60 (by decide) (fun _ => kk) (fun h => absurd (by decide) h)
  | succ j ih =>
    intro i hi
    have hiN : i < 24 := by omega
    obtain ⟨e1, e2, e3, -⟩ := z_i24 i (by omega)
    have pth : (f_rides g ra t i).1 r = some (.inl 0) := (f_rides_1 h1 i).trans hth
    have pra : (f_rides g ra t i).1 ra = some (.inr (4, 24)) := (f_rides_1 h2 i).trans hra
    have pfl : (f_rides g ra t i).2 r 7 = some ra := (congrFun (f_rides_2 h1 h3 i) 7).trans hfl
    refine zn_iload_n (pc := 57) B dX0_init_57 0 rfl rfl ?_
    refine zn_bipush (v := 24) (pc := 58) B dX0_init_58 (by decide) ?_
    refine zn_icmp_ge (tgt := 82) (pc := 60) B dX0_init_60 (by decide) (fun h => absurd h (z_i24 i hiN).2.2.2) (fun _ => ?_)
    refine zn_aload_n (pc := 63) B dX0_init_63 1 rfl rfl ?_
    refine zn_getr (pc := 64) (b := ra) B kx_0 pth 7 (by decide) kf_0_23 rfl pfl dX0_init_64 ?_
    refine zn_iload_n (pc := 67) B dX0_init_67 0 rfl rfl ?_
    refine zn_new (pc := 68) B hR kx_5 kk_0_21 kn_5 ki_5 (by show 15 + 1 * i + 1 ≤ 39; omega) (by show 178 + 19 * i + 19 ≤ 634; omega) kT_5 dX0_init_68 ?_
    refine zn_dup (pc := 71) B dX0_init_71 rfl ?_
    refine zn_run (pc := 72) rfl rfl rfl (zr_IN (own := RX0) (host := RX11) B hC hR 0 kI_yX5_init ki_5 rfl (by decide +kernel) (by simp [z_nct]) [] rfl rfl (Nat.le_of_ble_eq_true rfl) dX0_init_72 (c_Ride hX hC (g := gN (f_rides g ra t i) (t + 1 * i) (.inl 5)) (t := t + 1 * i + 1) (M := M) (r := t + 1 * i) gN_n (by omega)) ⟨(Nat.le_of_ble_eq_true rfl), (Nat.le_of_ble_eq_true rfl)⟩ ⟨by show 15 + 1 * i + 1 + 0 ≤ 39; omega, by show 178 + 19 * i + 19 + 0 ≤ 634; omega⟩) ?_
    refine zn_aast (pc := 75) (kd := 4) (N := 24) (ci := 5) B kx_5 (by decide) (by decide) rfl ((f_Ride_1 (g := gN (f_rides g ra t i) (t + 1 * i) (.inl 5)) (r := t + 1 * i) (t := t + 1 * i + 1) (by omega)).trans (gN_k pra (by omega))) (by omega) ((f_Ride_1 (g := gN (f_rides g ra t i) (t + 1 * i) (.inl 5)) (r := t + 1 * i) (t := t + 1 * i + 1) (by omega)).trans gN_n) e1 e2 hiN dX0_init_75 ?_
    refine zn_iinc (pc := 76) B dX0_init_76 0 rfl e3 (by decide) rfl ?_
    refine zn_goto (tgt := 57) (pc := 79) B dX0_init_79 (by decide) ?_
    exact zn_cast (by show 15 + 1 * i + 1 + 0 = 15 + 1 * (i + 1); omega) (by show 178 + 19 * i + 19 + 0 = 178 + 19 * (i + 1); omega) (by show t + 1 * i + 1 + 0 = t + 1 * (i + 1); omega) (ih (i + 1) (by omega))
def f_DeskA (g : z_Gr) (r t : Nat) : z_Gr := (gP (gN (gP (gN (gP (gN g t (.inr (0, 10))) r 5 t) (t + 1) (.inr (3, 4))) r 6 (t + 1)) ((t + 1) + 1) (.inr (4, 24))) r 7 ((t + 1) + 1))
def f_Desk (g : z_Gr) (r t : Nat) : z_Gr := f_rides (f_taxis (f_DeskA g r t) (t + 1) (t + 3) 4) (t + 2) (t + 15) 24
set_option maxRecDepth 100000 in
theorem c_Desk {X : z_X} (hX : z_ok X) (hC : z_okC X) {g : z_Gr} {t : Nat} {M : z_Mem} {r : Nat} (hg : g.1 r = some (.inl 0)) (hr : r < t) : z_CtN X yX0_init cX0_init 2 ({ frames := 2, cells := 39, slots := 634, locals := 32 } : Room) [.ref (z_o X + r)] g t M (f_Desk g r t) (t + 39) M := by
  refine z_enterN hX (by decide) rfl (Nat.le_of_ble_eq_true rfl) (fun F B hR hi => ?_)
  show z_N X F 2 _ 0 0 0 [(0, .ref (z_o X + r))] [] g t M
  refine zn_aload_n (pc := 0) B dX0_init_0 0 rfl rfl ?_
  refine zn_oinit (pc := 1) B hR km_0_3 dX0_init_1 (Nat.le_of_ble_eq_true rfl) (Nat.le_of_ble_eq_true rfl) ko_i ko_c ?_
  refine zn_aload_n (pc := 4) B dX0_init_4 0 rfl rfl ?_
  refine zn_bipush (v := 10) (pc := 5) B dX0_init_5 (by decide) ?_
  refine zn_newI (pc := 7) (N := 10) B hR ka_int (by decide) (by decide) (by decide) (Nat.le_of_ble_eq_true rfl) (Nat.le_of_ble_eq_true rfl) dX0_init_7 ?_
  refine zn_putf (pc := 9) B kx_0 (gN_k hg (by omega)) (by omega) 5 (by decide) kf_0_9 rfl rfl hi rfl (fun _ => rfl) (fun _ => rfl) dX0_init_9 ?_
  refine zn_aload_n (pc := 12) B dX0_init_12 0 rfl rfl ?_
  refine zn_iconst (v := 4) (pc := 13) B dX0_init_13 (by decide) ?_
  refine zn_anew (pc := 14) (N := 4) B hR 3 (by decide) (by decide) rfl kk_0_15 hC.2.1 (by decide) (by decide) (by decide) (Nat.le_of_ble_eq_true rfl) (Nat.le_of_ble_eq_true rfl) dX0_init_14 ?_
  refine zn_putf (pc := 17) B kx_0 (gN_k (gP_k (gN_k hg (by omega))) (by omega)) (by omega) 6 (by decide) kf_0_17 rfl rfl hi rfl (fun _ => rfl) (fun _ => rfl) dX0_init_17 ?_
  refine zn_aload_n (pc := 20) B dX0_init_20 0 rfl rfl ?_
  refine zn_bipush (v := 24) (pc := 21) B dX0_init_21 (by decide) ?_
  refine zn_anew (pc := 23) (N := 24) B hR 4 (by decide) (by decide) rfl kk_0_21 hC.2.2.1 (by decide) (by decide) (by decide) (Nat.le_of_ble_eq_true rfl) (Nat.le_of_ble_eq_true rfl) dX0_init_23 ?_
  refine zn_putf (pc := 26) B kx_0 (gN_k (gP_k (gN_k (gP_k (gN_k hg (by omega))) (by omega))) (by omega)) (by omega) 7 (by decide) kf_0_23 rfl rfl hi rfl (fun _ => rfl) (fun _ => rfl) dX0_init_26 ?_
  have pth : (f_DeskA g r t).1 r = some (.inl 0) := (gP_k (gN_k (gP_k (gN_k (gP_k (gN_k hg (by omega))) (by omega))) (by omega)))
  have p1 : (f_DeskA g r t).1 (t + 1) = some (.inr (3, 4)) := (gP_k (gN_k (gP_k gN_n) (by omega)))
  have p2 : (f_DeskA g r t).1 (t + 2) = some (.inr (4, 24)) := (gP_k gN_n)
  have q1 : (f_DeskA g r t).2 r 6 = some (t + 1) := gP_o gP_g (by omega)
  have q2 : (f_DeskA g r t).2 r 7 = some (t + 2) := gP_g
  refine zn_iconst (v := 0) (pc := 29) B dX0_init_29 (by decide) ?_
  refine zn_istore_n (pc := 30) B dX0_init_30 rfl (by decide) rfl ?_
  refine q_f_taxis hX hC B hR (g := f_DeskA g r t) (r := r) (ra := t + 1) (t := t + 3) pth p1 q1 (by omega) (by omega) (by omega) ?_ 4 0 rfl
  refine zn_iconst (v := 0) (pc := 55) B dX0_init_55 (by decide) ?_
  refine zn_istore_n (pc := 56) B dX0_init_56 rfl (by decide) rfl ?_
  refine q_f_rides hX hC B hR (g := f_taxis (f_DeskA g r t) (t + 1) (t + 3) 4) (r := r) (ra := t + 2) (t := t + 15) ((f_taxis_1 (by omega) 4).trans pth) ((f_taxis_1 (by omega) 4).trans p2) ((congrFun (f_taxis_2 (by omega) (by omega) 4) _).trans q2) (by omega) (by omega) (by omega) ?_ 24 0 rfl
  exact zn_vret (pc := 82) B dX0_init_82 rfl (Nat.le_of_ble_eq_true rfl) (Nat.le_of_ble_eq_true rfl) rfl rfl rfl
theorem f_DeskA_1 {g : z_Gr} {r t q : Nat} (h : q < t) : (f_DeskA g r t).1 q = g.1 q := Eq.trans (gN_1 (by omega)) (Eq.trans (gN_1 (by omega)) (gN_1 h))
theorem f_DeskA_2 {g : z_Gr} {r t q : Nat} (h : q ≠ r) : (f_DeskA g r t).2 q = g.2 q := Eq.trans (gP_2 h) (Eq.trans (gP_2 h) (gP_2 h))
theorem f_Desk_1 {g : z_Gr} {r t q : Nat} (h : q < t) : (f_Desk g r t).1 q = g.1 q := Eq.trans (f_rides_1 (by omega) 24) (Eq.trans (f_taxis_1 (by omega) 4) (f_DeskA_1 h))
theorem f_Desk_2 {g : z_Gr} {r t q : Nat} (h : q < t) (hne : q ≠ r) : (f_Desk g r t).2 q = g.2 q := Eq.trans (f_rides_2 (by omega) (by omega) 24) (Eq.trans (f_taxis_2 (by omega) (by omega) 4) (f_DeskA_2 hne))
def f_desks (g : z_Gr) (ra t : Nat) : Nat → z_Gr
  | 0 => g
  | i + 1 => gP (f_Desk (gN (f_desks g ra t i) (t + 40 * i) (.inl 0)) (t + 40 * i) (t + 40 * i + 1)) ra i (t + 40 * i)
theorem f_desks_1 {g : z_Gr} {ra t q : Nat} (h : q < t) (i : Nat) : (f_desks g ra t i).1 q = g.1 q := by
  induction i with
  | zero => rfl
  | succ i ih => exact Eq.trans (f_Desk_1 (g := gN (f_desks g ra t i) (t + 40 * i) (.inl 0)) (r := t + 40 * i) (t := t + 40 * i + 1) (by omega)) (Eq.trans (gN_1 (by omega)) ih)
theorem f_desks_2 {g : z_Gr} {ra t q : Nat} (h : q < t) (hne : q ≠ ra) (i : Nat) : (f_desks g ra t i).2 q = g.2 q := by
  induction i with
  | zero => rfl
  | succ i ih => exact Eq.trans (gP_2 hne) (Eq.trans (f_Desk_2 (g := gN (f_desks g ra t i) (t + 40 * i) (.inl 0)) (r := t + 40 * i) (t := t + 40 * i + 1) (by omega) (by omega)) ih)
set_option maxRecDepth 100000 in
theorem q_f_desks {X : z_X} (hX : z_ok X) (hC : z_okC X) {F : z_F} (B : z_B X F RX1 cX1_init 2 none) (hR : F.2.2.1 = ({ frames := 3, cells := 401, slots := 6430, locals := 53 } : Room)) {Q : State → Prop} {g : z_Gr} {r ra t : Nat} {M : z_Mem} (hth : g.1 r = some (.inl 1)) (hra : g.1 ra = some (.inr (5, 10))) (hfl : g.2 r 2 = some ra) (h1 : r < t) (h2 : ra < t) (h3 : r ≠ ra)
    (kk : z_N X F 2 Q (1 + 40 * 10) (10 + 642 * 10) 50 [(1, .int 10), (0, .ref (z_o X + r))] [] (f_desks g ra t 10) (t + 40 * 10) M) : ∀ j i : Nat, i + j = 10 → z_N X F 2 Q (1 + 40 * i) (10 + 642 * i) 25 [(1, .int (Int32.ofNat i)), (0, .ref (z_o X + r))] [] (f_desks g ra t i) (t + 40 * i) M := by
  intro j
  induction j with
  | zero =>
    intro i hi
    have hi4 : i = 10 := by omega
    subst hi4
    refine zn_iload_n (pc := 25) B dX1_init_25 0 rfl rfl ?_
    refine zn_bipush (v := 10) (pc := 26) B dX1_init_26 (by decide) ?_
    exact zn_icmp_ge (tgt := 50) (pc := 28) B dX1_init_28 (by decide) (fun _ => kk) (fun h => absurd (by decide) h)
  | succ j ih =>
    intro i hi
    have hiN : i < 10 := by omega
    obtain ⟨e1, e2, e3, -⟩ := z_i24 i (by omega)
    have pth : (f_desks g ra t i).1 r = some (.inl 1) := (f_desks_1 h1 i).trans hth
    have pra : (f_desks g ra t i).1 ra = some (.inr (5, 10)) := (f_desks_1 h2 i).trans hra
    have pfl : (f_desks g ra t i).2 r 2 = some ra := (congrFun (f_desks_2 h1 h3 i) 2).trans hfl
    refine zn_iload_n (pc := 25) B dX1_init_25 0 rfl rfl ?_
    refine zn_bipush (v := 10) (pc := 26) B dX1_init_26 (by decide) ?_
    refine zn_icmp_ge (tgt := 50) (pc := 28) B dX1_init_28 (by decide) (fun h => absurd h (z_i10 i hiN)) (fun _ => ?_)
    refine zn_aload_n (pc := 31) B dX1_init_31 1 rfl rfl ?_
    refine zn_getr (pc := 32) (b := ra) B kx_1 pth 2 (by decide) kf_1_20 rfl pfl dX1_init_32 ?_
    refine zn_iload_n (pc := 35) B dX1_init_35 0 rfl rfl ?_
    refine zn_new (pc := 36) B hR kx_0 kk_1_18 kn_0 ki_0 (by show 1 + 40 * i + 1 ≤ 401; omega) (by show 10 + 642 * i + 8 ≤ 6430; omega) kT_0 dX1_init_36 ?_
    refine zn_dup (pc := 39) B dX1_init_39 rfl ?_
    refine zn_run (pc := 40) rfl rfl rfl (zr_I B hR 0 kI_yX0_init ki_0 rfl (by decide +kernel) km_1_24 [] rfl rfl (Nat.le_of_ble_eq_true rfl) dX1_init_40 (c_Desk hX hC (g := gN (f_desks g ra t i) (t + 40 * i) (.inl 0)) (t := t + 40 * i + 1) (M := M) (r := t + 40 * i) gN_n (by omega)) ⟨(Nat.le_of_ble_eq_true rfl), (Nat.le_of_ble_eq_true rfl)⟩ ⟨by show 1 + 40 * i + 1 + 39 ≤ 401; omega, by show 10 + 642 * i + 8 + 634 ≤ 6430; omega⟩) ?_
    refine zn_aast (pc := 43) (kd := 5) (N := 10) (ci := 0) B kx_0 (by decide) (by decide) rfl ((f_Desk_1 (g := gN (f_desks g ra t i) (t + 40 * i) (.inl 0)) (r := t + 40 * i) (t := t + 40 * i + 1) (by omega)).trans (gN_k pra (by omega))) (by omega) ((f_Desk_1 (g := gN (f_desks g ra t i) (t + 40 * i) (.inl 0)) (r := t + 40 * i) (t := t + 40 * i + 1) (by omega)).trans gN_n) e1 e2 hiN dX1_init_43 ?_
    refine zn_iinc (pc := 44) B dX1_init_44 0 rfl e3 (by decide) rfl ?_
    refine zn_goto (tgt := 25) (pc := 47) B dX1_init_47 (by decide) ?_
    exact zn_cast (by show 1 + 40 * i + 1 + 39 = 1 + 40 * (i + 1); omega) (by show 10 + 642 * i + 8 + 634 = 10 + 642 * (i + 1); omega) (by show t + 40 * i + 1 + 39 = t + 40 * (i + 1); omega) (ih (i + 1) (by omega))
def f_HistoryA (g : z_Gr) (r t : Nat) : z_Gr := (gP (gN g t (.inr (5, 10))) r 2 t)
def f_History (g : z_Gr) (r t : Nat) : z_Gr := f_desks (f_HistoryA g r t) t (t + 1) 10
set_option maxRecDepth 100000 in
theorem c_History {X : z_X} (hX : z_ok X) (hC : z_okC X) {g : z_Gr} {t : Nat} {M : z_Mem} {r : Nat} (hg : g.1 r = some (.inl 1)) (hr : r < t) : z_CtN X yX1_init cX1_init 2 ({ frames := 3, cells := 401, slots := 6430, locals := 53 } : Room) [.ref (z_o X + r)] g t M (f_History g r t) (t + 401) (z_wI (z_wI M (z_o X + r) 0 0) (z_o X + r) 1 0) := by
  refine z_enterN hX (by decide) rfl (Nat.le_of_ble_eq_true rfl) (fun F B hR hi => ?_)
  show z_N X F 2 _ 0 0 0 [(0, .ref (z_o X + r))] [] g t M
  refine zn_aload_n (pc := 0) B dX1_init_0 0 rfl rfl ?_
  refine zn_oinit (pc := 1) B hR km_1_3 dX1_init_1 (Nat.le_of_ble_eq_true rfl) (Nat.le_of_ble_eq_true rfl) ko_i ko_c ?_
  refine zn_aload_n (pc := 4) B dX1_init_4 0 rfl rfl ?_
  refine zn_iconst (v := 0) (pc := 5) B dX1_init_5 (by decide) ?_
  refine zn_puti (pc := 6) B kx_1 hg (by omega) 0 (by decide) kf_1_9 rfl rfl rfl rfl dX1_init_6 ?_
  refine zn_aload_n (pc := 9) B dX1_init_9 0 rfl rfl ?_
  refine zn_iconst (v := 0) (pc := 10) B dX1_init_10 (by decide) ?_
  refine zn_puti (pc := 11) B kx_1 hg (by omega) 1 (by decide) kf_1_15 rfl rfl rfl rfl dX1_init_11 ?_
  refine zn_aload_n (pc := 14) B dX1_init_14 0 rfl rfl ?_
  refine zn_bipush (v := 10) (pc := 15) B dX1_init_15 (by decide) ?_
  refine zn_anew (pc := 17) (N := 10) B hR 5 (by decide) (by decide) rfl kk_1_18 hC.2.2.2 (by decide) (by decide) (by decide) (Nat.le_of_ble_eq_true rfl) (Nat.le_of_ble_eq_true rfl) dX1_init_17 ?_
  refine zn_putf (pc := 20) B kx_1 (gN_k hg (by omega)) (by omega) 2 (by decide) kf_1_20 rfl rfl hi rfl (fun _ => rfl) (fun _ => rfl) dX1_init_20 ?_
  have pth : (f_HistoryA g r t).1 r = some (.inl 1) := (gP_k (gN_k hg (by omega)))
  have p1 : (f_HistoryA g r t).1 t = some (.inr (5, 10)) := (gP_k gN_n)
  have q1 : (f_HistoryA g r t).2 r 2 = some t := gP_g
  refine zn_iconst (v := 0) (pc := 23) B dX1_init_23 (by decide) ?_
  refine zn_istore_n (pc := 24) B dX1_init_24 rfl (by decide) rfl ?_
  refine q_f_desks hX hC B hR (g := f_HistoryA g r t) (r := r) (ra := t) (t := t + 1) pth p1 q1 (by omega) (by omega) (by omega) ?_ 10 0 rfl
  exact zn_vret (pc := 50) B dX1_init_50 rfl (Nat.le_of_ble_eq_true rfl) (Nat.le_of_ble_eq_true rfl) rfl rfl rfl
theorem f_HistoryA_1 {g : z_Gr} {r t q : Nat} (h : q < t) : (f_HistoryA g r t).1 q = g.1 q := gN_1 h
theorem f_HistoryA_2 {g : z_Gr} {r t q : Nat} (h : q ≠ r) : (f_HistoryA g r t).2 q = g.2 q := gP_2 h
theorem f_History_1 {g : z_Gr} {r t q : Nat} (h : q < t) : (f_History g r t).1 q = g.1 q := Eq.trans (f_desks_1 (by omega) 10) (f_HistoryA_1 h)
theorem f_History_2 {g : z_Gr} {r t q : Nat} (h : q < t) (hne : q ≠ r) : (f_History g r t).2 q = g.2 q := Eq.trans (f_desks_2 (by omega) (by omega) 10) (f_HistoryA_2 hne)
def f_Plan (g : z_Gr) (r t : Nat) (a1 : Nat) (a2 : Nat) : z_Gr := (gP (gP (gP (gN (gP (gN (gP (gN (gP (gN (gP (gN (gP (gN g t (.inr (0, 12))) r 5 t) (t + 1) (.inr (0, 12))) r 6 (t + 1)) ((t + 1) + 1) (.inr (0, 12))) r 7 ((t + 1) + 1)) (((t + 1) + 1) + 1) (.inr (0, 12))) r 8 (((t + 1) + 1) + 1)) ((((t + 1) + 1) + 1) + 1) (.inr (0, 12))) r 9 ((((t + 1) + 1) + 1) + 1)) (((((t + 1) + 1) + 1) + 1) + 1) (.inr (0, 24))) r 10 (((((t + 1) + 1) + 1) + 1) + 1)) r 1 a1) r 2 a2)
set_option maxRecDepth 100000 in
theorem c_Plan {X : z_X} (hX : z_ok X) (hC : z_okC X) {g : z_Gr} {t : Nat} {M : z_Mem} {r : Nat} {a1 : Nat} {a2 : Nat} (hg : g.1 r = some (.inl 3)) (hr : r < t) : z_CtN X yX3_init cX3_init 3 ({ frames := 1, cells := 6, slots := 84, locals := 12 } : Room) [.ref (z_o X + r), .ref (z_o X + a1), .ref (z_o X + a2)] g t M (f_Plan g r t a1 a2) (t + 6) M := by
  refine z_enterN hX (by decide) rfl (Nat.le_of_ble_eq_true rfl) (fun F B hR hi => ?_)
  show z_N X F 3 _ 0 0 0 [(0, .ref (z_o X + r)), (1, .ref (z_o X + a1)), (2, .ref (z_o X + a2))] [] g t M
  refine zn_aload_n (pc := 0) B dX3_init_0 0 rfl rfl ?_
  refine zn_oinit (pc := 1) B hR km_3_3 dX3_init_1 (Nat.le_of_ble_eq_true rfl) (Nat.le_of_ble_eq_true rfl) ko_i ko_c ?_
  refine zn_aload_n (pc := 4) B dX3_init_4 0 rfl rfl ?_
  refine zn_bipush (v := 12) (pc := 5) B dX3_init_5 (by decide) ?_
  refine zn_newI (pc := 7) (N := 12) B hR ka_int (by decide) (by decide) (by decide) (Nat.le_of_ble_eq_true rfl) (Nat.le_of_ble_eq_true rfl) dX3_init_7 ?_
  refine zn_putf (pc := 9) B kx_3 (gN_k hg (by omega)) (by omega) 5 (by decide) kf_3_9 rfl rfl hi rfl (fun _ => rfl) (fun _ => rfl) dX3_init_9 ?_
  refine zn_aload_n (pc := 12) B dX3_init_12 0 rfl rfl ?_
  refine zn_bipush (v := 12) (pc := 13) B dX3_init_13 (by decide) ?_
  refine zn_newI (pc := 15) (N := 12) B hR ka_int (by decide) (by decide) (by decide) (Nat.le_of_ble_eq_true rfl) (Nat.le_of_ble_eq_true rfl) dX3_init_15 ?_
  refine zn_putf (pc := 17) B kx_3 (gN_k (gP_k (gN_k hg (by omega))) (by omega)) (by omega) 6 (by decide) kf_3_15 rfl rfl hi rfl (fun _ => rfl) (fun _ => rfl) dX3_init_17 ?_
  refine zn_aload_n (pc := 20) B dX3_init_20 0 rfl rfl ?_
  refine zn_bipush (v := 12) (pc := 21) B dX3_init_21 (by decide) ?_
  refine zn_newI (pc := 23) (N := 12) B hR ka_int (by decide) (by decide) (by decide) (Nat.le_of_ble_eq_true rfl) (Nat.le_of_ble_eq_true rfl) dX3_init_23 ?_
  refine zn_putf (pc := 25) B kx_3 (gN_k (gP_k (gN_k (gP_k (gN_k hg (by omega))) (by omega))) (by omega)) (by omega) 7 (by decide) kf_3_18 rfl rfl hi rfl (fun _ => rfl) (fun _ => rfl) dX3_init_25 ?_
  refine zn_aload_n (pc := 28) B dX3_init_28 0 rfl rfl ?_
  refine zn_bipush (v := 12) (pc := 29) B dX3_init_29 (by decide) ?_
  refine zn_newI (pc := 31) (N := 12) B hR ka_int (by decide) (by decide) (by decide) (Nat.le_of_ble_eq_true rfl) (Nat.le_of_ble_eq_true rfl) dX3_init_31 ?_
  refine zn_putf (pc := 33) B kx_3 (gN_k (gP_k (gN_k (gP_k (gN_k (gP_k (gN_k hg (by omega))) (by omega))) (by omega))) (by omega)) (by omega) 8 (by decide) kf_3_21 rfl rfl hi rfl (fun _ => rfl) (fun _ => rfl) dX3_init_33 ?_
  refine zn_aload_n (pc := 36) B dX3_init_36 0 rfl rfl ?_
  refine zn_bipush (v := 12) (pc := 37) B dX3_init_37 (by decide) ?_
  refine zn_newI (pc := 39) (N := 12) B hR ka_int (by decide) (by decide) (by decide) (Nat.le_of_ble_eq_true rfl) (Nat.le_of_ble_eq_true rfl) dX3_init_39 ?_
  refine zn_putf (pc := 41) B kx_3 (gN_k (gP_k (gN_k (gP_k (gN_k (gP_k (gN_k (gP_k (gN_k hg (by omega))) (by omega))) (by omega))) (by omega))) (by omega)) (by omega) 9 (by decide) kf_3_24 rfl rfl hi rfl (fun _ => rfl) (fun _ => rfl) dX3_init_41 ?_
  refine zn_aload_n (pc := 44) B dX3_init_44 0 rfl rfl ?_
  refine zn_bipush (v := 24) (pc := 45) B dX3_init_45 (by decide) ?_
  refine zn_newI (pc := 47) (N := 24) B hR ka_int (by decide) (by decide) (by decide) (Nat.le_of_ble_eq_true rfl) (Nat.le_of_ble_eq_true rfl) dX3_init_47 ?_
  refine zn_putf (pc := 49) B kx_3 (gN_k (gP_k (gN_k (gP_k (gN_k (gP_k (gN_k (gP_k (gN_k (gP_k (gN_k hg (by omega))) (by omega))) (by omega))) (by omega))) (by omega))) (by omega)) (by omega) 10 (by decide) kf_3_27 rfl rfl hi rfl (fun _ => rfl) (fun _ => rfl) dX3_init_49 ?_
  refine zn_aload_n (pc := 52) B dX3_init_52 0 rfl rfl ?_
  refine zn_aload_n (pc := 53) B dX3_init_53 1 rfl rfl ?_
  refine zn_putf (pc := 54) B kx_3 (gP_k (gN_k (gP_k (gN_k (gP_k (gN_k (gP_k (gN_k (gP_k (gN_k (gP_k (gN_k hg (by omega))) (by omega))) (by omega))) (by omega))) (by omega))) (by omega))) (by omega) 1 (by decide) kf_3_30 rfl rfl hi rfl (fun _ => rfl) (fun _ => rfl) dX3_init_54 ?_
  refine zn_aload_n (pc := 57) B dX3_init_57 0 rfl rfl ?_
  refine zn_aload_n (pc := 58) B dX3_init_58 2 rfl rfl ?_
  refine zn_putf (pc := 59) B kx_3 (gP_k (gP_k (gN_k (gP_k (gN_k (gP_k (gN_k (gP_k (gN_k (gP_k (gN_k (gP_k (gN_k hg (by omega))) (by omega))) (by omega))) (by omega))) (by omega))) (by omega)))) (by omega) 2 (by decide) kf_3_34 rfl rfl hi rfl (fun _ => rfl) (fun _ => rfl) dX3_init_59 ?_
  exact zn_vret (pc := 62) B dX3_init_62 rfl (Nat.le_of_ble_eq_true rfl) (Nat.le_of_ble_eq_true rfl) rfl rfl rfl
theorem f_Plan_1 {g : z_Gr} {r t q : Nat} {a1 : Nat} {a2 : Nat} (h : q < t) : (f_Plan g r t a1 a2).1 q = g.1 q := Eq.trans (rfl) (Eq.trans (rfl) (Eq.trans (rfl) (Eq.trans (gN_1 (by omega)) (Eq.trans (rfl) (Eq.trans (gN_1 (by omega)) (Eq.trans (rfl) (Eq.trans (gN_1 (by omega)) (Eq.trans (rfl) (Eq.trans (gN_1 (by omega)) (Eq.trans (rfl) (Eq.trans (gN_1 (by omega)) (Eq.trans (rfl) (gN_1 (by omega))))))))))))))
theorem f_Plan_2 {g : z_Gr} {r t q : Nat} {a1 : Nat} {a2 : Nat} (h : q < t) (hne : q ≠ r) : (f_Plan g r t a1 a2).2 q = g.2 q := Eq.trans (gP_2 (by omega)) (Eq.trans (gP_2 (by omega)) (Eq.trans (gP_2 (by omega)) (Eq.trans (rfl) (Eq.trans (gP_2 (by omega)) (Eq.trans (rfl) (Eq.trans (gP_2 (by omega)) (Eq.trans (rfl) (Eq.trans (gP_2 (by omega)) (Eq.trans (rfl) (Eq.trans (gP_2 (by omega)) (Eq.trans (rfl) (Eq.trans (gP_2 (by omega)) (rfl)))))))))))))
def f_Insertion (g : z_Gr) (r t : Nat) (a1 : Nat) : z_Gr := (gP g r 5 a1)
set_option maxRecDepth 100000 in
theorem c_Insertion {X : z_X} (hX : z_ok X) (hC : z_okC X) {g : z_Gr} {t : Nat} {M : z_Mem} {r : Nat} {a1 : Nat} (hg : g.1 r = some (.inl 2)) (hr : r < t) : z_CtN X yX2_init cX2_init 2 ({ frames := 1, cells := 0, slots := 0, locals := 12 } : Room) [.ref (z_o X + r), .ref (z_o X + a1)] g t M (f_Insertion g r t a1) (t + 0) M := by
  refine z_enterN hX (by decide) rfl (Nat.le_of_ble_eq_true rfl) (fun F B hR hi => ?_)
  show z_N X F 2 _ 0 0 0 [(0, .ref (z_o X + r)), (1, .ref (z_o X + a1))] [] g t M
  refine zn_aload_n (pc := 0) B dX2_init_0 0 rfl rfl ?_
  refine zn_oinit (pc := 1) B hR km_2_3 dX2_init_1 (Nat.le_of_ble_eq_true rfl) (Nat.le_of_ble_eq_true rfl) ko_i ko_c ?_
  refine zn_aload_n (pc := 4) B dX2_init_4 0 rfl rfl ?_
  refine zn_aload_n (pc := 5) B dX2_init_5 1 rfl rfl ?_
  refine zn_putf (pc := 6) B kx_2 hg (by omega) 5 (by decide) kf_2_9 rfl rfl hi rfl (fun _ => rfl) (fun _ => rfl) dX2_init_6 ?_
  exact zn_vret (pc := 9) B dX2_init_9 rfl (Nat.le_of_ble_eq_true rfl) (Nat.le_of_ble_eq_true rfl) rfl rfl rfl
theorem f_Insertion_1 {g : z_Gr} {r t q : Nat} {a1 : Nat} (h : q < t) : (f_Insertion g r t a1).1 q = g.1 q := rfl
theorem f_Insertion_2 {g : z_Gr} {r t q : Nat} {a1 : Nat} (h : q < t) (hne : q ≠ r) : (f_Insertion g r t a1).2 q = g.2 q := gP_2 (by omega)
def f_Traffic (g : z_Gr) (r t : Nat) (a1 : Nat) (a2 : Nat) (a3 : Nat) : z_Gr := (gP (gP (gP (gP (f_Taxi (gN g t (.inl 6)) t (t + 1)) r 3 t) r 0 a1) r 1 a2) r 2 a3)
set_option maxRecDepth 100000 in
theorem c_Traffic {X : z_X} (hX : z_ok X) (hC : z_okC X) {g : z_Gr} {t : Nat} {M : z_Mem} {r : Nat} {a1 : Nat} {a2 : Nat} {a3 : Nat} (hg : g.1 r = some (.inl 10)) (hr : r < t) : z_CtN X yX10_init cX10_init 4 ({ frames := 2, cells := 3, slots := 35, locals := 32 } : Room) [.ref (z_o X + r), .ref (z_o X + a1), .ref (z_o X + a2), .ref (z_o X + a3)] g t M (f_Traffic g r t a1 a2 a3) (t + 3) M := by
  refine z_enterN hX (by decide) rfl (Nat.le_of_ble_eq_true rfl) (fun F B hR hi => ?_)
  show z_N X F 4 _ 0 0 0 [(0, .ref (z_o X + r)), (1, .ref (z_o X + a1)), (2, .ref (z_o X + a2)), (3, .ref (z_o X + a3))] [] g t M
  refine zn_aload_n (pc := 0) B dX10_init_0 0 rfl rfl ?_
  refine zn_oinit (pc := 1) B hR km_10_3 dX10_init_1 (Nat.le_of_ble_eq_true rfl) (Nat.le_of_ble_eq_true rfl) ko_i ko_c ?_
  refine zn_aload_n (pc := 4) B dX10_init_4 0 rfl rfl ?_
  refine zn_new (pc := 5) B hR kx_6 kk_10_9 kn_6 ki_6 (Nat.le_of_ble_eq_true rfl) (Nat.le_of_ble_eq_true rfl) kT_6 dX10_init_5 ?_
  refine zn_dup (pc := 8) B dX10_init_8 rfl ?_
  refine zn_run (pc := 9) (k' := 3) (n' := 35) rfl rfl rfl (zr_IN (own := RX10) (host := RX11) B hC hR 0 kI_yX6_init ki_6 rfl (by decide +kernel) (by simp [z_nct]) [] rfl rfl (Nat.le_of_ble_eq_true rfl) dX10_init_9 (c_Taxi hX hC (g := (gN g t (.inl 6))) (t := (t + 1)) (M := M) (r := t) gN_n (by omega)) ⟨(Nat.le_of_ble_eq_true rfl), (Nat.le_of_ble_eq_true rfl)⟩ ⟨(Nat.le_of_ble_eq_true rfl), (Nat.le_of_ble_eq_true rfl)⟩) ?_
  refine zn_putf (pc := 12) B kx_10 ((f_Taxi_1 (g := (gN g t (.inl 6))) (r := t) (t := (t + 1)) (by omega)).trans (gN_k hg (by omega))) (by omega) 3 (by decide) kf_10_12 rfl rfl hi rfl (fun _ => rfl) (fun _ => rfl) dX10_init_12 ?_
  refine zn_aload_n (pc := 15) B dX10_init_15 0 rfl rfl ?_
  refine zn_aload_n (pc := 16) B dX10_init_16 1 rfl rfl ?_
  refine zn_putf (pc := 17) B kx_10 (gP_k ((f_Taxi_1 (g := (gN g t (.inl 6))) (r := t) (t := (t + 1)) (by omega)).trans (gN_k hg (by omega)))) (by omega) 0 (by decide) kf_10_18 rfl rfl hi rfl (fun _ => rfl) (fun _ => rfl) dX10_init_17 ?_
  refine zn_aload_n (pc := 20) B dX10_init_20 0 rfl rfl ?_
  refine zn_aload_n (pc := 21) B dX10_init_21 2 rfl rfl ?_
  refine zn_putf (pc := 22) B kx_10 (gP_k (gP_k ((f_Taxi_1 (g := (gN g t (.inl 6))) (r := t) (t := (t + 1)) (by omega)).trans (gN_k hg (by omega))))) (by omega) 1 (by decide) kf_10_22 rfl rfl hi rfl (fun _ => rfl) (fun _ => rfl) dX10_init_22 ?_
  refine zn_aload_n (pc := 25) B dX10_init_25 0 rfl rfl ?_
  refine zn_aload_n (pc := 26) B dX10_init_26 3 rfl rfl ?_
  refine zn_putf (pc := 27) B kx_10 (gP_k (gP_k (gP_k ((f_Taxi_1 (g := (gN g t (.inl 6))) (r := t) (t := (t + 1)) (by omega)).trans (gN_k hg (by omega)))))) (by omega) 2 (by decide) kf_10_26 rfl rfl hi rfl (fun _ => rfl) (fun _ => rfl) dX10_init_27 ?_
  exact zn_vret (pc := 30) B dX10_init_30 rfl (Nat.le_of_ble_eq_true rfl) (Nat.le_of_ble_eq_true rfl) rfl rfl rfl
theorem f_Traffic_1 {g : z_Gr} {r t q : Nat} {a1 : Nat} {a2 : Nat} {a3 : Nat} (h : q < t) : (f_Traffic g r t a1 a2 a3).1 q = g.1 q := Eq.trans (rfl) (Eq.trans (rfl) (Eq.trans (rfl) (Eq.trans (rfl) (Eq.trans (f_Taxi_1 (g := (gN g t (.inl 6))) (r := t) (t := (t + 1)) (by omega)) (gN_1 (by omega))))))
theorem f_Traffic_2 {g : z_Gr} {r t q : Nat} {a1 : Nat} {a2 : Nat} {a3 : Nat} (h : q < t) (hne : q ≠ r) : (f_Traffic g r t a1 a2 a3).2 q = g.2 q := Eq.trans (gP_2 (by omega)) (Eq.trans (gP_2 (by omega)) (Eq.trans (gP_2 (by omega)) (Eq.trans (gP_2 (by omega)) (Eq.trans (f_Taxi_2 (g := (gN g t (.inl 6))) (r := t) (t := (t + 1)) (by omega) (by omega)) (rfl)))))
def f_Tokens (g : z_Gr) (r t : Nat) (a1 : Nat) : z_Gr := (gP (gP (gN (gP (gN (gP (gN (gP (gN g t (.inr (0, 801))) r 3 t) (t + 1) (.inr (0, 801))) r 4 (t + 1)) ((t + 1) + 1) (.inr (0, 801))) r 5 ((t + 1) + 1)) (((t + 1) + 1) + 1) (.inr (0, 801))) r 6 (((t + 1) + 1) + 1)) r 2 a1)
set_option maxRecDepth 100000 in
theorem c_Tokens {X : z_X} (hX : z_ok X) (hC : z_okC X) {g : z_Gr} {t : Nat} {M : z_Mem} {r : Nat} {a1 : Nat} (hg : g.1 r = some (.inl 8)) (hr : r < t) : z_CtN X yX8_init cX8_init 2 ({ frames := 1, cells := 4, slots := 3204, locals := 12 } : Room) [.ref (z_o X + r), .ref (z_o X + a1)] g t M (f_Tokens g r t a1) (t + 4) (z_wI M (z_o X + r) 1 (-1)) := by
  refine z_enterN hX (by decide) rfl (Nat.le_of_ble_eq_true rfl) (fun F B hR hi => ?_)
  show z_N X F 2 _ 0 0 0 [(0, .ref (z_o X + r)), (1, .ref (z_o X + a1))] [] g t M
  refine zn_aload_n (pc := 0) B dX8_init_0 0 rfl rfl ?_
  refine zn_oinit (pc := 1) B hR km_8_3 dX8_init_1 (Nat.le_of_ble_eq_true rfl) (Nat.le_of_ble_eq_true rfl) ko_i ko_c ?_
  refine zn_aload_n (pc := 4) B dX8_init_4 0 rfl rfl ?_
  refine zn_iconst (v := -1) (pc := 5) B dX8_init_5 (by decide) ?_
  refine zn_puti (pc := 6) B kx_8 hg (by omega) 1 (by decide) kf_8_9 rfl rfl rfl rfl dX8_init_6 ?_
  refine zn_aload_n (pc := 9) B dX8_init_9 0 rfl rfl ?_
  refine zn_sipush (v := 801) (pc := 10) B dX8_init_10 (by decide) ?_
  refine zn_newI (pc := 13) (N := 801) B hR ka_int (by decide) (by decide) (by decide) (Nat.le_of_ble_eq_true rfl) (Nat.le_of_ble_eq_true rfl) dX8_init_13 ?_
  refine zn_putf (pc := 15) B kx_8 (gN_k hg (by omega)) (by omega) 3 (by decide) kf_8_15 rfl rfl hi rfl (fun _ => rfl) (fun _ => rfl) dX8_init_15 ?_
  refine zn_aload_n (pc := 18) B dX8_init_18 0 rfl rfl ?_
  refine zn_sipush (v := 801) (pc := 19) B dX8_init_19 (by decide) ?_
  refine zn_newI (pc := 22) (N := 801) B hR ka_int (by decide) (by decide) (by decide) (Nat.le_of_ble_eq_true rfl) (Nat.le_of_ble_eq_true rfl) dX8_init_22 ?_
  refine zn_putf (pc := 24) B kx_8 (gN_k (gP_k (gN_k hg (by omega))) (by omega)) (by omega) 4 (by decide) kf_8_19 rfl rfl hi rfl (fun _ => rfl) (fun _ => rfl) dX8_init_24 ?_
  refine zn_aload_n (pc := 27) B dX8_init_27 0 rfl rfl ?_
  refine zn_sipush (v := 801) (pc := 28) B dX8_init_28 (by decide) ?_
  refine zn_newI (pc := 31) (N := 801) B hR ka_int (by decide) (by decide) (by decide) (Nat.le_of_ble_eq_true rfl) (Nat.le_of_ble_eq_true rfl) dX8_init_31 ?_
  refine zn_putf (pc := 33) B kx_8 (gN_k (gP_k (gN_k (gP_k (gN_k hg (by omega))) (by omega))) (by omega)) (by omega) 5 (by decide) kf_8_22 rfl rfl hi rfl (fun _ => rfl) (fun _ => rfl) dX8_init_33 ?_
  refine zn_aload_n (pc := 36) B dX8_init_36 0 rfl rfl ?_
  refine zn_sipush (v := 801) (pc := 37) B dX8_init_37 (by decide) ?_
  refine zn_newI (pc := 40) (N := 801) B hR ka_int (by decide) (by decide) (by decide) (Nat.le_of_ble_eq_true rfl) (Nat.le_of_ble_eq_true rfl) dX8_init_40 ?_
  refine zn_putf (pc := 42) B kx_8 (gN_k (gP_k (gN_k (gP_k (gN_k (gP_k (gN_k hg (by omega))) (by omega))) (by omega))) (by omega)) (by omega) 6 (by decide) kf_8_25 rfl rfl hi rfl (fun _ => rfl) (fun _ => rfl) dX8_init_42 ?_
  refine zn_aload_n (pc := 45) B dX8_init_45 0 rfl rfl ?_
  refine zn_aload_n (pc := 46) B dX8_init_46 1 rfl rfl ?_
  refine zn_putf (pc := 47) B kx_8 (gP_k (gN_k (gP_k (gN_k (gP_k (gN_k (gP_k (gN_k hg (by omega))) (by omega))) (by omega))) (by omega))) (by omega) 2 (by decide) kf_8_28 rfl rfl hi rfl (fun _ => rfl) (fun _ => rfl) dX8_init_47 ?_
  exact zn_vret (pc := 50) B dX8_init_50 rfl (Nat.le_of_ble_eq_true rfl) (Nat.le_of_ble_eq_true rfl) rfl rfl rfl
theorem f_Tokens_1 {g : z_Gr} {r t q : Nat} {a1 : Nat} (h : q < t) : (f_Tokens g r t a1).1 q = g.1 q := Eq.trans (rfl) (Eq.trans (rfl) (Eq.trans (gN_1 (by omega)) (Eq.trans (rfl) (Eq.trans (gN_1 (by omega)) (Eq.trans (rfl) (Eq.trans (gN_1 (by omega)) (Eq.trans (rfl) (gN_1 (by omega)))))))))
theorem f_Tokens_2 {g : z_Gr} {r t q : Nat} {a1 : Nat} (h : q < t) (hne : q ≠ r) : (f_Tokens g r t a1).2 q = g.2 q := Eq.trans (gP_2 (by omega)) (Eq.trans (gP_2 (by omega)) (Eq.trans (rfl) (Eq.trans (gP_2 (by omega)) (Eq.trans (rfl) (Eq.trans (gP_2 (by omega)) (Eq.trans (rfl) (Eq.trans (gP_2 (by omega)) (rfl))))))))
def f_TextReader (g : z_Gr) (r t : Nat) (a1 : Nat) : z_Gr := (gP (gP (f_Desk (gN (gP (f_Town (gN g t (.inl 9)) t (t + 1)) r 0 t) ((t + 1) + 1) (.inl 0)) ((t + 1) + 1) (((t + 1) + 1) + 1)) r 1 ((t + 1) + 1)) r 2 a1)
set_option maxRecDepth 100000 in
theorem c_TextReader {X : z_X} (hX : z_ok X) (hC : z_okC X) {g : z_Gr} {t : Nat} {M : z_Mem} {r : Nat} {a1 : Nat} (hg : g.1 r = some (.inl 7)) (hr : r < t) : z_CtN X yX7_init cX7_init 2 ({ frames := 3, cells := 42, slots := 709, locals := 53 } : Room) [.ref (z_o X + r), .ref (z_o X + a1)] g t M (f_TextReader g r t a1) (t + 42) M := by
  refine z_enterN hX (by decide) rfl (Nat.le_of_ble_eq_true rfl) (fun F B hR hi => ?_)
  show z_N X F 2 _ 0 0 0 [(0, .ref (z_o X + r)), (1, .ref (z_o X + a1))] [] g t M
  refine zn_aload_n (pc := 0) B dX7_init_0 0 rfl rfl ?_
  refine zn_oinit (pc := 1) B hR km_7_3 dX7_init_1 (Nat.le_of_ble_eq_true rfl) (Nat.le_of_ble_eq_true rfl) ko_i ko_c ?_
  refine zn_aload_n (pc := 4) B dX7_init_4 0 rfl rfl ?_
  refine zn_new (pc := 5) B hR kx_9 kk_7_9 kn_9 ki_9 (Nat.le_of_ble_eq_true rfl) (Nat.le_of_ble_eq_true rfl) kT_9 dX7_init_5 ?_
  refine zn_dup (pc := 8) B dX7_init_8 rfl ?_
  refine zn_run (pc := 9) (k' := 2) (n' := 67) rfl rfl rfl (zr_IN (own := RX7) (host := RX11) B hC hR 0 kI_yX9_init ki_9 rfl (by decide +kernel) (by simp [z_nct]) [] rfl rfl (Nat.le_of_ble_eq_true rfl) dX7_init_9 (c_Town hX hC (g := (gN g t (.inl 9))) (t := (t + 1)) (M := M) (r := t) gN_n (by omega)) ⟨(Nat.le_of_ble_eq_true rfl), (Nat.le_of_ble_eq_true rfl)⟩ ⟨(Nat.le_of_ble_eq_true rfl), (Nat.le_of_ble_eq_true rfl)⟩) ?_
  refine zn_putf (pc := 12) B kx_7 ((f_Town_1 (g := (gN g t (.inl 9))) (r := t) (t := (t + 1)) (by omega)).trans (gN_k hg (by omega))) (by omega) 0 (by decide) kf_7_12 rfl rfl hi rfl (fun _ => rfl) (fun _ => rfl) dX7_init_12 ?_
  refine zn_aload_n (pc := 15) B dX7_init_15 0 rfl rfl ?_
  refine zn_new (pc := 16) B hR kx_0 kk_7_18 kn_0 ki_0 (Nat.le_of_ble_eq_true rfl) (Nat.le_of_ble_eq_true rfl) kT_0 dX7_init_16 ?_
  refine zn_dup (pc := 19) B dX7_init_19 rfl ?_
  refine zn_run (pc := 20) (k' := 42) (n' := 709) rfl rfl rfl (zr_I B hR 0 kI_yX0_init ki_0 rfl (by decide +kernel) km_7_20 [] rfl rfl (Nat.le_of_ble_eq_true rfl) dX7_init_20 (c_Desk hX hC (g := (gN (gP (f_Town (gN g t (.inl 9)) t (t + 1)) r 0 t) ((t + 1) + 1) (.inl 0))) (t := (((t + 1) + 1) + 1)) (M := M) (r := ((t + 1) + 1)) gN_n (by omega)) ⟨(Nat.le_of_ble_eq_true rfl), (Nat.le_of_ble_eq_true rfl)⟩ ⟨(Nat.le_of_ble_eq_true rfl), (Nat.le_of_ble_eq_true rfl)⟩) ?_
  refine zn_putf (pc := 23) B kx_7 ((f_Desk_1 (g := (gN (gP (f_Town (gN g t (.inl 9)) t (t + 1)) r 0 t) ((t + 1) + 1) (.inl 0))) (r := ((t + 1) + 1)) (t := (((t + 1) + 1) + 1)) (by omega)).trans (gN_k (gP_k ((f_Town_1 (g := (gN g t (.inl 9))) (r := t) (t := (t + 1)) (by omega)).trans (gN_k hg (by omega)))) (by omega))) (by omega) 1 (by decide) kf_7_21 rfl rfl hi rfl (fun _ => rfl) (fun _ => rfl) dX7_init_23 ?_
  refine zn_aload_n (pc := 26) B dX7_init_26 0 rfl rfl ?_
  refine zn_aload_n (pc := 27) B dX7_init_27 1 rfl rfl ?_
  refine zn_putf (pc := 28) B kx_7 (gP_k ((f_Desk_1 (g := (gN (gP (f_Town (gN g t (.inl 9)) t (t + 1)) r 0 t) ((t + 1) + 1) (.inl 0))) (r := ((t + 1) + 1)) (t := (((t + 1) + 1) + 1)) (by omega)).trans (gN_k (gP_k ((f_Town_1 (g := (gN g t (.inl 9))) (r := t) (t := (t + 1)) (by omega)).trans (gN_k hg (by omega)))) (by omega)))) (by omega) 2 (by decide) kf_7_25 rfl rfl hi rfl (fun _ => rfl) (fun _ => rfl) dX7_init_28 ?_
  exact zn_vret (pc := 31) B dX7_init_31 rfl (Nat.le_of_ble_eq_true rfl) (Nat.le_of_ble_eq_true rfl) rfl rfl rfl
theorem f_TextReader_1 {g : z_Gr} {r t q : Nat} {a1 : Nat} (h : q < t) : (f_TextReader g r t a1).1 q = g.1 q := Eq.trans (rfl) (Eq.trans (rfl) (Eq.trans (f_Desk_1 (g := (gN (gP (f_Town (gN g t (.inl 9)) t (t + 1)) r 0 t) ((t + 1) + 1) (.inl 0))) (r := ((t + 1) + 1)) (t := (((t + 1) + 1) + 1)) (by omega)) (Eq.trans (gN_1 (by omega)) (Eq.trans (rfl) (Eq.trans (f_Town_1 (g := (gN g t (.inl 9))) (r := t) (t := (t + 1)) (by omega)) (gN_1 (by omega)))))))
theorem f_TextReader_2 {g : z_Gr} {r t q : Nat} {a1 : Nat} (h : q < t) (hne : q ≠ r) : (f_TextReader g r t a1).2 q = g.2 q := Eq.trans (gP_2 (by omega)) (Eq.trans (gP_2 (by omega)) (Eq.trans (f_Desk_2 (g := (gN (gP (f_Town (gN g t (.inl 9)) t (t + 1)) r 0 t) ((t + 1) + 1) (.inl 0))) (r := ((t + 1) + 1)) (t := (((t + 1) + 1) + 1)) (by omega) (by omega)) (Eq.trans (rfl) (Eq.trans (gP_2 (by omega)) (Eq.trans (f_Town_2 (g := (gN g t (.inl 9))) (r := t) (t := (t + 1)) (by omega) (by omega)) (rfl))))))
def f_QueryReader (g : z_Gr) (r t : Nat) (a1 : Nat) (a2 : Nat) : z_Gr := (gP (gP g r 0 a1) r 1 a2)
set_option maxRecDepth 100000 in
theorem c_QueryReader {X : z_X} (hX : z_ok X) (hC : z_okC X) {g : z_Gr} {t : Nat} {M : z_Mem} {r : Nat} {a1 : Nat} {a2 : Nat} (hg : g.1 r = some (.inl 4)) (hr : r < t) : z_CtN X yX4_init cX4_init 3 ({ frames := 1, cells := 0, slots := 0, locals := 12 } : Room) [.ref (z_o X + r), .ref (z_o X + a1), .ref (z_o X + a2)] g t M (f_QueryReader g r t a1 a2) (t + 0) M := by
  refine z_enterN hX (by decide) rfl (Nat.le_of_ble_eq_true rfl) (fun F B hR hi => ?_)
  show z_N X F 3 _ 0 0 0 [(0, .ref (z_o X + r)), (1, .ref (z_o X + a1)), (2, .ref (z_o X + a2))] [] g t M
  refine zn_aload_n (pc := 0) B dX4_init_0 0 rfl rfl ?_
  refine zn_oinit (pc := 1) B hR km_4_3 dX4_init_1 (Nat.le_of_ble_eq_true rfl) (Nat.le_of_ble_eq_true rfl) ko_i ko_c ?_
  refine zn_aload_n (pc := 4) B dX4_init_4 0 rfl rfl ?_
  refine zn_aload_n (pc := 5) B dX4_init_5 1 rfl rfl ?_
  refine zn_putf (pc := 6) B kx_4 hg (by omega) 0 (by decide) kf_4_9 rfl rfl hi rfl (fun _ => rfl) (fun _ => rfl) dX4_init_6 ?_
  refine zn_aload_n (pc := 9) B dX4_init_9 0 rfl rfl ?_
  refine zn_aload_n (pc := 10) B dX4_init_10 2 rfl rfl ?_
  refine zn_putf (pc := 11) B kx_4 (gP_k hg) (by omega) 1 (by decide) kf_4_15 rfl rfl hi rfl (fun _ => rfl) (fun _ => rfl) dX4_init_11 ?_
  exact zn_vret (pc := 14) B dX4_init_14 rfl (Nat.le_of_ble_eq_true rfl) (Nat.le_of_ble_eq_true rfl) rfl rfl rfl
theorem f_QueryReader_1 {g : z_Gr} {r t q : Nat} {a1 : Nat} {a2 : Nat} (h : q < t) : (f_QueryReader g r t a1 a2).1 q = g.1 q := Eq.trans (rfl) (rfl)
theorem f_QueryReader_2 {g : z_Gr} {r t q : Nat} {a1 : Nat} {a2 : Nat} (h : q < t) (hne : q ≠ r) : (f_QueryReader g r t a1 a2).2 q = g.2 q := Eq.trans (gP_2 (by omega)) (gP_2 (by omega))
theorem gN_f {g : z_Gr} {t r k b : Nat} {sh : z_Sh} (h : g.2 r k = some b) : (gN g t sh).2 r k = some b := h
theorem zn_at {X : z_X} {F : z_F} {nL : Nat} {Q : State → Prop} {k n pc t t9 : Nat} {loc : List (Nat × Value)} {st : List Value} {g g9 : z_Gr} {M : z_Mem} (hg : g = g9) (ht : t = t9) (kk : z_N X F nL Q k n pc loc st g9 t9 M) : z_N X F nL Q k n pc loc st g t M := by
  subst hg; subst ht
  exact kk
theorem z_sh3 {X : z_X} {g : z_Gr} {r k b : Nat} (h : g.2 r k = some b) : (z_sh X g).2 (z_o X + r) k = some (z_o X + b) := by
  rw [z_sh2, h]
  rfl
set_option maxRecDepth 100000 in
theorem sh_Ride {X : z_X} {g : z_Gr} {r : Nat} (h : g_Ride g r) : g_Ride (z_sh X g) (z_o X + r) := by
  have h0 := h
  exact (z_sh1 _).trans h0
set_option maxRecDepth 100000 in
theorem sh_Taxi {X : z_X} {g : z_Gr} {r : Nat} (h : g_Taxi g r) : g_Taxi (z_sh X g) (z_o X + r) := by
  obtain ⟨h0, h1, h2, h3, h4⟩ := h
  exact ⟨(by rw [show (z_o X + r) = z_o X + r by omega]; exact (z_sh1 _).trans h0), (by rw [show (z_o X + r) = z_o X + r by omega]; exact (z_sh3 h1).trans (congrArg some (by omega))), (by rw [show ((z_o X + r) + 1) = z_o X + (r + 1) by omega]; exact (z_sh1 _).trans h2), (by rw [show (z_o X + r) = z_o X + r by omega]; exact (z_sh3 h3).trans (congrArg some (by omega))), (by rw [show ((z_o X + r) + 2) = z_o X + (r + 2) by omega]; exact (z_sh1 _).trans h4)⟩
set_option maxRecDepth 100000 in
theorem sh_Town {X : z_X} {g : z_Gr} {r : Nat} (h : g_Town g r) : g_Town (z_sh X g) (z_o X + r) := by
  obtain ⟨h0, h1, h2⟩ := h
  exact ⟨(by rw [show (z_o X + r) = z_o X + r by omega]; exact (z_sh1 _).trans h0), (by rw [show (z_o X + r) = z_o X + r by omega]; exact (z_sh3 h1).trans (congrArg some (by omega))), (by rw [show ((z_o X + r) + 1) = z_o X + (r + 1) by omega]; exact (z_sh1 _).trans h2)⟩
set_option maxRecDepth 100000 in
theorem sh_Desk {X : z_X} {g : z_Gr} {r : Nat} (h : g_Desk g r) : g_Desk (z_sh X g) (z_o X + r) := by
  obtain ⟨h0, h1, h2, h3, h4, h5, h6, h7, h8, h9, h10⟩ := h
  exact ⟨(by rw [show (z_o X + r) = z_o X + r by omega]; exact (z_sh1 _).trans h0), (by rw [show (z_o X + r) = z_o X + r by omega]; exact (z_sh3 h1).trans (congrArg some (by omega))), (by rw [show ((z_o X + r) + 1) = z_o X + (r + 1) by omega]; exact (z_sh1 _).trans h2), (by rw [show (z_o X + r) = z_o X + r by omega]; exact (z_sh3 h3).trans (congrArg some (by omega))), (by rw [show ((z_o X + r) + 2) = z_o X + (r + 2) by omega]; exact (z_sh1 _).trans h4), (fun i hi => by rw [show ((z_o X + r) + 2) = z_o X + (r + 2) by omega]; exact (z_sh3 (h5 i hi)).trans (congrArg some (by omega))), (fun i hi => by rw [show (z_o X + r) + 4 + 3 * i = z_o X + (r + 4 + 3 * i) by omega]; exact sh_Taxi (h6 i hi)), (by rw [show (z_o X + r) = z_o X + r by omega]; exact (z_sh3 h7).trans (congrArg some (by omega))), (by rw [show ((z_o X + r) + 3) = z_o X + (r + 3) by omega]; exact (z_sh1 _).trans h8), (fun i hi => by rw [show ((z_o X + r) + 3) = z_o X + (r + 3) by omega]; exact (z_sh3 (h9 i hi)).trans (congrArg some (by omega))), (fun i hi => by rw [show (z_o X + r) + 16 + 1 * i = z_o X + (r + 16 + 1 * i) by omega]; exact sh_Ride (h10 i hi))⟩
set_option maxRecDepth 100000 in
theorem sh_Law {X : z_X} {g : z_Gr} {r : Nat} (h : g_Law g r) : g_Law (z_sh X g) (z_o X + r) := by
  obtain ⟨h0, h1, h2⟩ := h
  exact ⟨(by rw [show (z_o X + r) = z_o X + r by omega]; exact (z_sh1 _).trans h0), (by rw [show (z_o X + r) = z_o X + r by omega]; exact (z_sh3 h1).trans (congrArg some (by omega))), (by rw [show ((z_o X + r) + 1) = z_o X + (r + 1) by omega]; exact (z_sh1 _).trans h2)⟩
set_option maxRecDepth 100000 in
theorem sh_Sys {X : z_X} {g : z_Gr} {r : Nat} (h : g_Sys g r) : g_Sys (z_sh X g) (z_o X + r) := by
  obtain ⟨h0, h1, h2, h3, h4, h5, h6, h7, h8, h9, h10, h11, h12, h13, h14, h15, h16, h17, h18, h19, h20, h21, h22, h23, h24, h25, h26, h27, h28, h29, h30, h31, h32, h33, h34, h35, h36, h37, h38, h39, h40, h41, h42, h43, h44, h45, h46, h47, h48, h49, h50, h51, h52, h53, h54, h55, h56, h57, h58, h59, h60, h61, h62, h63, h64, h65, h66, h67, h68, h69, h70⟩ := h
  exact ⟨(by rw [show (z_o X + r) = z_o X + r by omega]; exact (z_sh1 _).trans h0), (by rw [show (z_o X + r) = z_o X + r by omega]; exact (z_sh3 h1).trans (congrArg some (by omega))), (by rw [show ((z_o X + r) + 1) = z_o X + (r + 1) by omega]; exact (z_sh1 _).trans h2), (by rw [show (z_o X + r) = z_o X + r by omega]; exact (z_sh3 h3).trans (congrArg some (by omega))), (by rw [show ((z_o X + r) + 2) = z_o X + (r + 2) by omega]; exact (z_sh1 _).trans h4), (by rw [show (z_o X + r) = z_o X + r by omega]; exact (z_sh3 h5).trans (congrArg some (by omega))), (by rw [show (z_o X + r) + 3 = z_o X + (r + 3) by omega]; exact sh_Town h6), (by rw [show (z_o X + r) = z_o X + r by omega]; exact (z_sh3 h7).trans (congrArg some (by omega))), (by rw [show (z_o X + r) + 5 = z_o X + (r + 5) by omega]; exact sh_Desk h8), (by rw [show (z_o X + r) = z_o X + r by omega]; exact (z_sh3 h9).trans (congrArg some (by omega))), (by rw [show (z_o X + r) = z_o X + r by omega]; exact (z_sh3 h10).trans (congrArg some (by omega))), (by rw [show (z_o X + r) + 447 = z_o X + (r + 447) by omega]; exact sh_Desk h11), (by rw [show (z_o X + r) = z_o X + r by omega]; exact (z_sh3 h12).trans (congrArg some (by omega))), (by rw [show (z_o X + r) = z_o X + r by omega]; exact (z_sh3 h13).trans (congrArg some (by omega))), (by rw [show (z_o X + r) = z_o X + r by omega]; exact (z_sh3 h14).trans (congrArg some (by omega))), (by rw [show (z_o X + r) = z_o X + r by omega]; exact (z_sh3 h15).trans (congrArg some (by omega))), (by rw [show (z_o X + r) = z_o X + r by omega]; exact (z_sh3 h16).trans (congrArg some (by omega))), (by rw [show (z_o X + r) = z_o X + r by omega]; exact (z_sh3 h17).trans (congrArg some (by omega))), (by rw [show ((z_o X + r) + 45) = z_o X + (r + 45) by omega]; exact (z_sh1 _).trans h18), (by rw [show ((z_o X + r) + 45) = z_o X + (r + 45) by omega]; exact (z_sh3 h19).trans (congrArg some (by omega))), (by rw [show ((z_o X + r) + 46) = z_o X + (r + 46) by omega]; exact (z_sh1 _).trans h20), (fun i hi => by rw [show ((z_o X + r) + 46) = z_o X + (r + 46) by omega]; exact (z_sh3 (h21 i hi)).trans (congrArg some (by omega))), (fun i hi => by rw [show (z_o X + r) + 47 + 40 * i = z_o X + (r + 47 + 40 * i) by omega]; exact sh_Desk (h22 i hi)), (by rw [show ((z_o X + r) + 487) = z_o X + (r + 487) by omega]; exact (z_sh1 _).trans h23), (by rw [show ((z_o X + r) + 487) = z_o X + (r + 487) by omega]; exact (z_sh3 h24).trans (congrArg some (by omega))), (by rw [show (z_o X + r) + 3 = z_o X + (r + 3) by omega]; exact sh_Town h25), (by rw [show ((z_o X + r) + 487) = z_o X + (r + 487) by omega]; exact (z_sh3 h26).trans (congrArg some (by omega))), (by rw [show (z_o X + r) + 5 = z_o X + (r + 5) by omega]; exact sh_Desk h27), (by rw [show ((z_o X + r) + 487) = z_o X + (r + 487) by omega]; exact (z_sh3 h28).trans (congrArg some (by omega))), (by rw [show ((z_o X + r) + 488) = z_o X + (r + 488) by omega]; exact (z_sh1 _).trans h29), (by rw [show ((z_o X + r) + 487) = z_o X + (r + 487) by omega]; exact (z_sh3 h30).trans (congrArg some (by omega))), (by rw [show ((z_o X + r) + 489) = z_o X + (r + 489) by omega]; exact (z_sh1 _).trans h31), (by rw [show ((z_o X + r) + 487) = z_o X + (r + 487) by omega]; exact (z_sh3 h32).trans (congrArg some (by omega))), (by rw [show ((z_o X + r) + 490) = z_o X + (r + 490) by omega]; exact (z_sh1 _).trans h33), (by rw [show ((z_o X + r) + 487) = z_o X + (r + 487) by omega]; exact (z_sh3 h34).trans (congrArg some (by omega))), (by rw [show ((z_o X + r) + 491) = z_o X + (r + 491) by omega]; exact (z_sh1 _).trans h35), (by rw [show ((z_o X + r) + 487) = z_o X + (r + 487) by omega]; exact (z_sh3 h36).trans (congrArg some (by omega))), (by rw [show ((z_o X + r) + 492) = z_o X + (r + 492) by omega]; exact (z_sh1 _).trans h37), (by rw [show ((z_o X + r) + 487) = z_o X + (r + 487) by omega]; exact (z_sh3 h38).trans (congrArg some (by omega))), (by rw [show ((z_o X + r) + 493) = z_o X + (r + 493) by omega]; exact (z_sh1 _).trans h39), (by rw [show ((z_o X + r) + 494) = z_o X + (r + 494) by omega]; exact (z_sh1 _).trans h40), (by rw [show ((z_o X + r) + 494) = z_o X + (r + 494) by omega]; exact (z_sh3 h41).trans (congrArg some (by omega))), (by rw [show ((z_o X + r) + 495) = z_o X + (r + 495) by omega]; exact (z_sh1 _).trans h42), (by rw [show ((z_o X + r) + 495) = z_o X + (r + 495) by omega]; exact (z_sh3 h43).trans (congrArg some (by omega))), (by rw [show (z_o X + r) + 3 = z_o X + (r + 3) by omega]; exact sh_Town h44), (by rw [show ((z_o X + r) + 495) = z_o X + (r + 495) by omega]; exact (z_sh3 h45).trans (congrArg some (by omega))), (by rw [show (z_o X + r) + 5 = z_o X + (r + 5) by omega]; exact sh_Desk h46), (by rw [show ((z_o X + r) + 495) = z_o X + (r + 495) by omega]; exact (z_sh3 h47).trans (congrArg some (by omega))), (by rw [show ((z_o X + r) + 495) = z_o X + (r + 495) by omega]; exact (z_sh3 h48).trans (congrArg some (by omega))), (by rw [show (z_o X + r) + 496 = z_o X + (r + 496) by omega]; exact sh_Taxi h49), (by rw [show ((z_o X + r) + 499) = z_o X + (r + 499) by omega]; exact (z_sh1 _).trans h50), (by rw [show ((z_o X + r) + 499) = z_o X + (r + 499) by omega]; exact (z_sh3 h51).trans (congrArg some (by omega))), (by rw [show ((z_o X + r) + 1) = z_o X + (r + 1) by omega]; exact (z_sh1 _).trans h52), (by rw [show ((z_o X + r) + 499) = z_o X + (r + 499) by omega]; exact (z_sh3 h53).trans (congrArg some (by omega))), (by rw [show ((z_o X + r) + 500) = z_o X + (r + 500) by omega]; exact (z_sh1 _).trans h54), (by rw [show ((z_o X + r) + 499) = z_o X + (r + 499) by omega]; exact (z_sh3 h55).trans (congrArg some (by omega))), (by rw [show ((z_o X + r) + 501) = z_o X + (r + 501) by omega]; exact (z_sh1 _).trans h56), (by rw [show ((z_o X + r) + 499) = z_o X + (r + 499) by omega]; exact (z_sh3 h57).trans (congrArg some (by omega))), (by rw [show ((z_o X + r) + 502) = z_o X + (r + 502) by omega]; exact (z_sh1 _).trans h58), (by rw [show ((z_o X + r) + 499) = z_o X + (r + 499) by omega]; exact (z_sh3 h59).trans (congrArg some (by omega))), (by rw [show ((z_o X + r) + 503) = z_o X + (r + 503) by omega]; exact (z_sh1 _).trans h60), (by rw [show ((z_o X + r) + 504) = z_o X + (r + 504) by omega]; exact (z_sh1 _).trans h61), (by rw [show ((z_o X + r) + 504) = z_o X + (r + 504) by omega]; exact (z_sh3 h62).trans (congrArg some (by omega))), (by rw [show (z_o X + r) + 505 = z_o X + (r + 505) by omega]; exact sh_Town h63), (by rw [show ((z_o X + r) + 504) = z_o X + (r + 504) by omega]; exact (z_sh3 h64).trans (congrArg some (by omega))), (by rw [show (z_o X + r) + 507 = z_o X + (r + 507) by omega]; exact sh_Desk h65), (by rw [show ((z_o X + r) + 504) = z_o X + (r + 504) by omega]; exact (z_sh3 h66).trans (congrArg some (by omega))), (by rw [show ((z_o X + r) + 547) = z_o X + (r + 547) by omega]; exact (z_sh1 _).trans h67), (by rw [show ((z_o X + r) + 547) = z_o X + (r + 547) by omega]; exact (z_sh3 h68).trans (congrArg some (by omega))), (by rw [show ((z_o X + r) + 547) = z_o X + (r + 547) by omega]; exact (z_sh3 h69).trans (congrArg some (by omega))), (by rw [show (z_o X + r) + 5 = z_o X + (r + 5) by omega]; exact sh_Desk h70)⟩
def gA_0 : z_Gr := gN (fun _ => none, fun _ _ => none) 0 (.inl 12)
def gS_0 : z_Gr := gN (f_Law gA_0 0 1) 2 (.inl 11)
theorem gS_0_s : gS_0.1 2 = some (.inl 11) := gN_n
def gS_1 : z_Gr := (gP (gN gS_0 3 (.inr (1, 800))) 2 0 3)
theorem gS_1_s : gS_1.1 2 = some (.inl 11) := (gP_k (gN_k gS_0_s (by omega)))
theorem gS_1_f0 : gS_1.2 2 0 = some 3 := gP_g
def gS_2 : z_Gr := (gP (gN gS_1 4 (.inr (1, 80))) 2 3 4)
theorem gS_2_s : gS_2.1 2 = some (.inl 11) := (gP_k (gN_k gS_1_s (by omega)))
theorem gS_2_f0 : gS_2.2 2 0 = some 3 := (gP_o (gN_f gS_1_f0) (by omega))
theorem gS_2_f3 : gS_2.2 2 3 = some 4 := gP_g
def gS_3 : z_Gr := (gP (f_Town (gN gS_2 5 (.inl 9)) 5 (5 + 1)) 2 5 5)
theorem gS_3_s : gS_3.1 2 = some (.inl 11) := (gP_k ((f_Town_1 (g := (gN gS_2 5 (.inl 9))) (r := 5) (t := (5 + 1)) (by omega)).trans (gN_k gS_2_s (by omega))))
theorem gS_3_f0 : gS_3.2 2 0 = some 3 := (gP_o ((congrFun (f_Town_2 (g := (gN gS_2 5 (.inl 9))) (r := 5) (t := (5 + 1)) (by omega) (by omega)) 0).trans (gN_f gS_2_f0)) (by omega))
theorem gS_3_f3 : gS_3.2 2 3 = some 4 := (gP_o ((congrFun (f_Town_2 (g := (gN gS_2 5 (.inl 9))) (r := 5) (t := (5 + 1)) (by omega) (by omega)) 3).trans (gN_f gS_2_f3)) (by omega))
theorem gS_3_f5 : gS_3.2 2 5 = some 5 := gP_g
def gS_4 : z_Gr := (gP (f_Desk (gN gS_3 7 (.inl 0)) 7 (7 + 1)) 2 6 7)
theorem gS_4_s : gS_4.1 2 = some (.inl 11) := (gP_k ((f_Desk_1 (g := (gN gS_3 7 (.inl 0))) (r := 7) (t := (7 + 1)) (by omega)).trans (gN_k gS_3_s (by omega))))
theorem gS_4_f0 : gS_4.2 2 0 = some 3 := (gP_o ((congrFun (f_Desk_2 (g := (gN gS_3 7 (.inl 0))) (r := 7) (t := (7 + 1)) (by omega) (by omega)) 0).trans (gN_f gS_3_f0)) (by omega))
theorem gS_4_f3 : gS_4.2 2 3 = some 4 := (gP_o ((congrFun (f_Desk_2 (g := (gN gS_3 7 (.inl 0))) (r := 7) (t := (7 + 1)) (by omega) (by omega)) 3).trans (gN_f gS_3_f3)) (by omega))
theorem gS_4_f5 : gS_4.2 2 5 = some 5 := (gP_o ((congrFun (f_Desk_2 (g := (gN gS_3 7 (.inl 0))) (r := 7) (t := (7 + 1)) (by omega) (by omega)) 5).trans (gN_f gS_3_f5)) (by omega))
theorem gS_4_f6 : gS_4.2 2 6 = some 7 := gP_g
def gS_5 : z_Gr := (gP (f_History (gN gS_4 47 (.inl 1)) 47 (47 + 1)) 2 7 47)
theorem gS_5_s : gS_5.1 2 = some (.inl 11) := (gP_k ((f_History_1 (g := (gN gS_4 47 (.inl 1))) (r := 47) (t := (47 + 1)) (by omega)).trans (gN_k gS_4_s (by omega))))
theorem gS_5_f0 : gS_5.2 2 0 = some 3 := (gP_o ((congrFun (f_History_2 (g := (gN gS_4 47 (.inl 1))) (r := 47) (t := (47 + 1)) (by omega) (by omega)) 0).trans (gN_f gS_4_f0)) (by omega))
theorem gS_5_f3 : gS_5.2 2 3 = some 4 := (gP_o ((congrFun (f_History_2 (g := (gN gS_4 47 (.inl 1))) (r := 47) (t := (47 + 1)) (by omega) (by omega)) 3).trans (gN_f gS_4_f3)) (by omega))
theorem gS_5_f5 : gS_5.2 2 5 = some 5 := (gP_o ((congrFun (f_History_2 (g := (gN gS_4 47 (.inl 1))) (r := 47) (t := (47 + 1)) (by omega) (by omega)) 5).trans (gN_f gS_4_f5)) (by omega))
theorem gS_5_f6 : gS_5.2 2 6 = some 7 := (gP_o ((congrFun (f_History_2 (g := (gN gS_4 47 (.inl 1))) (r := 47) (t := (47 + 1)) (by omega) (by omega)) 6).trans (gN_f gS_4_f6)) (by omega))
theorem gS_5_f7 : gS_5.2 2 7 = some 47 := gP_g
def gS_6 : z_Gr := (gP (f_Desk (gN gS_5 449 (.inl 0)) 449 (449 + 1)) 2 8 449)
theorem gS_6_s : gS_6.1 2 = some (.inl 11) := (gP_k ((f_Desk_1 (g := (gN gS_5 449 (.inl 0))) (r := 449) (t := (449 + 1)) (by omega)).trans (gN_k gS_5_s (by omega))))
theorem gS_6_f0 : gS_6.2 2 0 = some 3 := (gP_o ((congrFun (f_Desk_2 (g := (gN gS_5 449 (.inl 0))) (r := 449) (t := (449 + 1)) (by omega) (by omega)) 0).trans (gN_f gS_5_f0)) (by omega))
theorem gS_6_f3 : gS_6.2 2 3 = some 4 := (gP_o ((congrFun (f_Desk_2 (g := (gN gS_5 449 (.inl 0))) (r := 449) (t := (449 + 1)) (by omega) (by omega)) 3).trans (gN_f gS_5_f3)) (by omega))
theorem gS_6_f5 : gS_6.2 2 5 = some 5 := (gP_o ((congrFun (f_Desk_2 (g := (gN gS_5 449 (.inl 0))) (r := 449) (t := (449 + 1)) (by omega) (by omega)) 5).trans (gN_f gS_5_f5)) (by omega))
theorem gS_6_f6 : gS_6.2 2 6 = some 7 := (gP_o ((congrFun (f_Desk_2 (g := (gN gS_5 449 (.inl 0))) (r := 449) (t := (449 + 1)) (by omega) (by omega)) 6).trans (gN_f gS_5_f6)) (by omega))
theorem gS_6_f7 : gS_6.2 2 7 = some 47 := (gP_o ((congrFun (f_Desk_2 (g := (gN gS_5 449 (.inl 0))) (r := 449) (t := (449 + 1)) (by omega) (by omega)) 7).trans (gN_f gS_5_f7)) (by omega))
theorem gS_6_f8 : gS_6.2 2 8 = some 449 := gP_g
def gS_7 : z_Gr := (gP (f_Plan (gN gS_6 489 (.inl 3)) 489 (489 + 1) 5 7) 2 10 489)
theorem gS_7_s : gS_7.1 2 = some (.inl 11) := (gP_k ((f_Plan_1 (g := (gN gS_6 489 (.inl 3))) (r := 489) (t := (489 + 1)) (a1 := 5) (a2 := 7) (by omega)).trans (gN_k gS_6_s (by omega))))
theorem gS_7_f0 : gS_7.2 2 0 = some 3 := (gP_o ((congrFun (f_Plan_2 (g := (gN gS_6 489 (.inl 3))) (r := 489) (t := (489 + 1)) (a1 := 5) (a2 := 7) (by omega) (by omega)) 0).trans (gN_f gS_6_f0)) (by omega))
theorem gS_7_f3 : gS_7.2 2 3 = some 4 := (gP_o ((congrFun (f_Plan_2 (g := (gN gS_6 489 (.inl 3))) (r := 489) (t := (489 + 1)) (a1 := 5) (a2 := 7) (by omega) (by omega)) 3).trans (gN_f gS_6_f3)) (by omega))
theorem gS_7_f5 : gS_7.2 2 5 = some 5 := (gP_o ((congrFun (f_Plan_2 (g := (gN gS_6 489 (.inl 3))) (r := 489) (t := (489 + 1)) (a1 := 5) (a2 := 7) (by omega) (by omega)) 5).trans (gN_f gS_6_f5)) (by omega))
theorem gS_7_f6 : gS_7.2 2 6 = some 7 := (gP_o ((congrFun (f_Plan_2 (g := (gN gS_6 489 (.inl 3))) (r := 489) (t := (489 + 1)) (a1 := 5) (a2 := 7) (by omega) (by omega)) 6).trans (gN_f gS_6_f6)) (by omega))
theorem gS_7_f7 : gS_7.2 2 7 = some 47 := (gP_o ((congrFun (f_Plan_2 (g := (gN gS_6 489 (.inl 3))) (r := 489) (t := (489 + 1)) (a1 := 5) (a2 := 7) (by omega) (by omega)) 7).trans (gN_f gS_6_f7)) (by omega))
theorem gS_7_f8 : gS_7.2 2 8 = some 449 := (gP_o ((congrFun (f_Plan_2 (g := (gN gS_6 489 (.inl 3))) (r := 489) (t := (489 + 1)) (a1 := 5) (a2 := 7) (by omega) (by omega)) 8).trans (gN_f gS_6_f8)) (by omega))
theorem gS_7_f10 : gS_7.2 2 10 = some 489 := gP_g
def gS_8 : z_Gr := (gP (f_Insertion (gN gS_7 496 (.inl 2)) 496 (496 + 1) 489) 2 11 496)
theorem gS_8_s : gS_8.1 2 = some (.inl 11) := (gP_k ((f_Insertion_1 (g := (gN gS_7 496 (.inl 2))) (r := 496) (t := (496 + 1)) (a1 := 489) (by omega)).trans (gN_k gS_7_s (by omega))))
theorem gS_8_f0 : gS_8.2 2 0 = some 3 := (gP_o ((congrFun (f_Insertion_2 (g := (gN gS_7 496 (.inl 2))) (r := 496) (t := (496 + 1)) (a1 := 489) (by omega) (by omega)) 0).trans (gN_f gS_7_f0)) (by omega))
theorem gS_8_f3 : gS_8.2 2 3 = some 4 := (gP_o ((congrFun (f_Insertion_2 (g := (gN gS_7 496 (.inl 2))) (r := 496) (t := (496 + 1)) (a1 := 489) (by omega) (by omega)) 3).trans (gN_f gS_7_f3)) (by omega))
theorem gS_8_f5 : gS_8.2 2 5 = some 5 := (gP_o ((congrFun (f_Insertion_2 (g := (gN gS_7 496 (.inl 2))) (r := 496) (t := (496 + 1)) (a1 := 489) (by omega) (by omega)) 5).trans (gN_f gS_7_f5)) (by omega))
theorem gS_8_f6 : gS_8.2 2 6 = some 7 := (gP_o ((congrFun (f_Insertion_2 (g := (gN gS_7 496 (.inl 2))) (r := 496) (t := (496 + 1)) (a1 := 489) (by omega) (by omega)) 6).trans (gN_f gS_7_f6)) (by omega))
theorem gS_8_f7 : gS_8.2 2 7 = some 47 := (gP_o ((congrFun (f_Insertion_2 (g := (gN gS_7 496 (.inl 2))) (r := 496) (t := (496 + 1)) (a1 := 489) (by omega) (by omega)) 7).trans (gN_f gS_7_f7)) (by omega))
theorem gS_8_f8 : gS_8.2 2 8 = some 449 := (gP_o ((congrFun (f_Insertion_2 (g := (gN gS_7 496 (.inl 2))) (r := 496) (t := (496 + 1)) (a1 := 489) (by omega) (by omega)) 8).trans (gN_f gS_7_f8)) (by omega))
theorem gS_8_f10 : gS_8.2 2 10 = some 489 := (gP_o ((congrFun (f_Insertion_2 (g := (gN gS_7 496 (.inl 2))) (r := 496) (t := (496 + 1)) (a1 := 489) (by omega) (by omega)) 10).trans (gN_f gS_7_f10)) (by omega))
theorem gS_8_f11 : gS_8.2 2 11 = some 496 := gP_g
def gS_9 : z_Gr := (gP (f_Traffic (gN gS_8 497 (.inl 10)) 497 (497 + 1) 5 7 489) 2 12 497)
theorem gS_9_s : gS_9.1 2 = some (.inl 11) := (gP_k ((f_Traffic_1 (g := (gN gS_8 497 (.inl 10))) (r := 497) (t := (497 + 1)) (a1 := 5) (a2 := 7) (a3 := 489) (by omega)).trans (gN_k gS_8_s (by omega))))
theorem gS_9_f0 : gS_9.2 2 0 = some 3 := (gP_o ((congrFun (f_Traffic_2 (g := (gN gS_8 497 (.inl 10))) (r := 497) (t := (497 + 1)) (a1 := 5) (a2 := 7) (a3 := 489) (by omega) (by omega)) 0).trans (gN_f gS_8_f0)) (by omega))
theorem gS_9_f3 : gS_9.2 2 3 = some 4 := (gP_o ((congrFun (f_Traffic_2 (g := (gN gS_8 497 (.inl 10))) (r := 497) (t := (497 + 1)) (a1 := 5) (a2 := 7) (a3 := 489) (by omega) (by omega)) 3).trans (gN_f gS_8_f3)) (by omega))
theorem gS_9_f5 : gS_9.2 2 5 = some 5 := (gP_o ((congrFun (f_Traffic_2 (g := (gN gS_8 497 (.inl 10))) (r := 497) (t := (497 + 1)) (a1 := 5) (a2 := 7) (a3 := 489) (by omega) (by omega)) 5).trans (gN_f gS_8_f5)) (by omega))
theorem gS_9_f6 : gS_9.2 2 6 = some 7 := (gP_o ((congrFun (f_Traffic_2 (g := (gN gS_8 497 (.inl 10))) (r := 497) (t := (497 + 1)) (a1 := 5) (a2 := 7) (a3 := 489) (by omega) (by omega)) 6).trans (gN_f gS_8_f6)) (by omega))
theorem gS_9_f7 : gS_9.2 2 7 = some 47 := (gP_o ((congrFun (f_Traffic_2 (g := (gN gS_8 497 (.inl 10))) (r := 497) (t := (497 + 1)) (a1 := 5) (a2 := 7) (a3 := 489) (by omega) (by omega)) 7).trans (gN_f gS_8_f7)) (by omega))
theorem gS_9_f8 : gS_9.2 2 8 = some 449 := (gP_o ((congrFun (f_Traffic_2 (g := (gN gS_8 497 (.inl 10))) (r := 497) (t := (497 + 1)) (a1 := 5) (a2 := 7) (a3 := 489) (by omega) (by omega)) 8).trans (gN_f gS_8_f8)) (by omega))
theorem gS_9_f10 : gS_9.2 2 10 = some 489 := (gP_o ((congrFun (f_Traffic_2 (g := (gN gS_8 497 (.inl 10))) (r := 497) (t := (497 + 1)) (a1 := 5) (a2 := 7) (a3 := 489) (by omega) (by omega)) 10).trans (gN_f gS_8_f10)) (by omega))
theorem gS_9_f11 : gS_9.2 2 11 = some 496 := (gP_o ((congrFun (f_Traffic_2 (g := (gN gS_8 497 (.inl 10))) (r := 497) (t := (497 + 1)) (a1 := 5) (a2 := 7) (a3 := 489) (by omega) (by omega)) 11).trans (gN_f gS_8_f11)) (by omega))
theorem gS_9_f12 : gS_9.2 2 12 = some 497 := gP_g
def gS_10 : z_Gr := (gP (f_Tokens (gN gS_9 501 (.inl 8)) 501 (501 + 1) 3) 2 13 501)
theorem gS_10_s : gS_10.1 2 = some (.inl 11) := (gP_k ((f_Tokens_1 (g := (gN gS_9 501 (.inl 8))) (r := 501) (t := (501 + 1)) (a1 := 3) (by omega)).trans (gN_k gS_9_s (by omega))))
theorem gS_10_f0 : gS_10.2 2 0 = some 3 := (gP_o ((congrFun (f_Tokens_2 (g := (gN gS_9 501 (.inl 8))) (r := 501) (t := (501 + 1)) (a1 := 3) (by omega) (by omega)) 0).trans (gN_f gS_9_f0)) (by omega))
theorem gS_10_f3 : gS_10.2 2 3 = some 4 := (gP_o ((congrFun (f_Tokens_2 (g := (gN gS_9 501 (.inl 8))) (r := 501) (t := (501 + 1)) (a1 := 3) (by omega) (by omega)) 3).trans (gN_f gS_9_f3)) (by omega))
theorem gS_10_f5 : gS_10.2 2 5 = some 5 := (gP_o ((congrFun (f_Tokens_2 (g := (gN gS_9 501 (.inl 8))) (r := 501) (t := (501 + 1)) (a1 := 3) (by omega) (by omega)) 5).trans (gN_f gS_9_f5)) (by omega))
theorem gS_10_f6 : gS_10.2 2 6 = some 7 := (gP_o ((congrFun (f_Tokens_2 (g := (gN gS_9 501 (.inl 8))) (r := 501) (t := (501 + 1)) (a1 := 3) (by omega) (by omega)) 6).trans (gN_f gS_9_f6)) (by omega))
theorem gS_10_f7 : gS_10.2 2 7 = some 47 := (gP_o ((congrFun (f_Tokens_2 (g := (gN gS_9 501 (.inl 8))) (r := 501) (t := (501 + 1)) (a1 := 3) (by omega) (by omega)) 7).trans (gN_f gS_9_f7)) (by omega))
theorem gS_10_f8 : gS_10.2 2 8 = some 449 := (gP_o ((congrFun (f_Tokens_2 (g := (gN gS_9 501 (.inl 8))) (r := 501) (t := (501 + 1)) (a1 := 3) (by omega) (by omega)) 8).trans (gN_f gS_9_f8)) (by omega))
theorem gS_10_f10 : gS_10.2 2 10 = some 489 := (gP_o ((congrFun (f_Tokens_2 (g := (gN gS_9 501 (.inl 8))) (r := 501) (t := (501 + 1)) (a1 := 3) (by omega) (by omega)) 10).trans (gN_f gS_9_f10)) (by omega))
theorem gS_10_f11 : gS_10.2 2 11 = some 496 := (gP_o ((congrFun (f_Tokens_2 (g := (gN gS_9 501 (.inl 8))) (r := 501) (t := (501 + 1)) (a1 := 3) (by omega) (by omega)) 11).trans (gN_f gS_9_f11)) (by omega))
theorem gS_10_f12 : gS_10.2 2 12 = some 497 := (gP_o ((congrFun (f_Tokens_2 (g := (gN gS_9 501 (.inl 8))) (r := 501) (t := (501 + 1)) (a1 := 3) (by omega) (by omega)) 12).trans (gN_f gS_9_f12)) (by omega))
theorem gS_10_f13 : gS_10.2 2 13 = some 501 := gP_g
def gS_11 : z_Gr := (gP (f_TextReader (gN gS_10 506 (.inl 7)) 506 (506 + 1) 501) 2 14 506)
theorem gS_11_s : gS_11.1 2 = some (.inl 11) := (gP_k ((f_TextReader_1 (g := (gN gS_10 506 (.inl 7))) (r := 506) (t := (506 + 1)) (a1 := 501) (by omega)).trans (gN_k gS_10_s (by omega))))
theorem gS_11_f0 : gS_11.2 2 0 = some 3 := (gP_o ((congrFun (f_TextReader_2 (g := (gN gS_10 506 (.inl 7))) (r := 506) (t := (506 + 1)) (a1 := 501) (by omega) (by omega)) 0).trans (gN_f gS_10_f0)) (by omega))
theorem gS_11_f3 : gS_11.2 2 3 = some 4 := (gP_o ((congrFun (f_TextReader_2 (g := (gN gS_10 506 (.inl 7))) (r := 506) (t := (506 + 1)) (a1 := 501) (by omega) (by omega)) 3).trans (gN_f gS_10_f3)) (by omega))
theorem gS_11_f5 : gS_11.2 2 5 = some 5 := (gP_o ((congrFun (f_TextReader_2 (g := (gN gS_10 506 (.inl 7))) (r := 506) (t := (506 + 1)) (a1 := 501) (by omega) (by omega)) 5).trans (gN_f gS_10_f5)) (by omega))
theorem gS_11_f6 : gS_11.2 2 6 = some 7 := (gP_o ((congrFun (f_TextReader_2 (g := (gN gS_10 506 (.inl 7))) (r := 506) (t := (506 + 1)) (a1 := 501) (by omega) (by omega)) 6).trans (gN_f gS_10_f6)) (by omega))
theorem gS_11_f7 : gS_11.2 2 7 = some 47 := (gP_o ((congrFun (f_TextReader_2 (g := (gN gS_10 506 (.inl 7))) (r := 506) (t := (506 + 1)) (a1 := 501) (by omega) (by omega)) 7).trans (gN_f gS_10_f7)) (by omega))
theorem gS_11_f8 : gS_11.2 2 8 = some 449 := (gP_o ((congrFun (f_TextReader_2 (g := (gN gS_10 506 (.inl 7))) (r := 506) (t := (506 + 1)) (a1 := 501) (by omega) (by omega)) 8).trans (gN_f gS_10_f8)) (by omega))
theorem gS_11_f10 : gS_11.2 2 10 = some 489 := (gP_o ((congrFun (f_TextReader_2 (g := (gN gS_10 506 (.inl 7))) (r := 506) (t := (506 + 1)) (a1 := 501) (by omega) (by omega)) 10).trans (gN_f gS_10_f10)) (by omega))
theorem gS_11_f11 : gS_11.2 2 11 = some 496 := (gP_o ((congrFun (f_TextReader_2 (g := (gN gS_10 506 (.inl 7))) (r := 506) (t := (506 + 1)) (a1 := 501) (by omega) (by omega)) 11).trans (gN_f gS_10_f11)) (by omega))
theorem gS_11_f12 : gS_11.2 2 12 = some 497 := (gP_o ((congrFun (f_TextReader_2 (g := (gN gS_10 506 (.inl 7))) (r := 506) (t := (506 + 1)) (a1 := 501) (by omega) (by omega)) 12).trans (gN_f gS_10_f12)) (by omega))
theorem gS_11_f13 : gS_11.2 2 13 = some 501 := (gP_o ((congrFun (f_TextReader_2 (g := (gN gS_10 506 (.inl 7))) (r := 506) (t := (506 + 1)) (a1 := 501) (by omega) (by omega)) 13).trans (gN_f gS_10_f13)) (by omega))
theorem gS_11_f14 : gS_11.2 2 14 = some 506 := gP_g
def gS_12 : z_Gr := (gP (f_QueryReader (gN gS_11 549 (.inl 4)) 549 (549 + 1) 501 7) 2 15 549)
theorem gS_12_s : gS_12.1 2 = some (.inl 11) := (gP_k ((f_QueryReader_1 (g := (gN gS_11 549 (.inl 4))) (r := 549) (t := (549 + 1)) (a1 := 501) (a2 := 7) (by omega)).trans (gN_k gS_11_s (by omega))))
theorem gS_12_f0 : gS_12.2 2 0 = some 3 := (gP_o ((congrFun (f_QueryReader_2 (g := (gN gS_11 549 (.inl 4))) (r := 549) (t := (549 + 1)) (a1 := 501) (a2 := 7) (by omega) (by omega)) 0).trans (gN_f gS_11_f0)) (by omega))
theorem gS_12_f3 : gS_12.2 2 3 = some 4 := (gP_o ((congrFun (f_QueryReader_2 (g := (gN gS_11 549 (.inl 4))) (r := 549) (t := (549 + 1)) (a1 := 501) (a2 := 7) (by omega) (by omega)) 3).trans (gN_f gS_11_f3)) (by omega))
theorem gS_12_f5 : gS_12.2 2 5 = some 5 := (gP_o ((congrFun (f_QueryReader_2 (g := (gN gS_11 549 (.inl 4))) (r := 549) (t := (549 + 1)) (a1 := 501) (a2 := 7) (by omega) (by omega)) 5).trans (gN_f gS_11_f5)) (by omega))
theorem gS_12_f6 : gS_12.2 2 6 = some 7 := (gP_o ((congrFun (f_QueryReader_2 (g := (gN gS_11 549 (.inl 4))) (r := 549) (t := (549 + 1)) (a1 := 501) (a2 := 7) (by omega) (by omega)) 6).trans (gN_f gS_11_f6)) (by omega))
theorem gS_12_f7 : gS_12.2 2 7 = some 47 := (gP_o ((congrFun (f_QueryReader_2 (g := (gN gS_11 549 (.inl 4))) (r := 549) (t := (549 + 1)) (a1 := 501) (a2 := 7) (by omega) (by omega)) 7).trans (gN_f gS_11_f7)) (by omega))
theorem gS_12_f8 : gS_12.2 2 8 = some 449 := (gP_o ((congrFun (f_QueryReader_2 (g := (gN gS_11 549 (.inl 4))) (r := 549) (t := (549 + 1)) (a1 := 501) (a2 := 7) (by omega) (by omega)) 8).trans (gN_f gS_11_f8)) (by omega))
theorem gS_12_f10 : gS_12.2 2 10 = some 489 := (gP_o ((congrFun (f_QueryReader_2 (g := (gN gS_11 549 (.inl 4))) (r := 549) (t := (549 + 1)) (a1 := 501) (a2 := 7) (by omega) (by omega)) 10).trans (gN_f gS_11_f10)) (by omega))
theorem gS_12_f11 : gS_12.2 2 11 = some 496 := (gP_o ((congrFun (f_QueryReader_2 (g := (gN gS_11 549 (.inl 4))) (r := 549) (t := (549 + 1)) (a1 := 501) (a2 := 7) (by omega) (by omega)) 11).trans (gN_f gS_11_f11)) (by omega))
theorem gS_12_f12 : gS_12.2 2 12 = some 497 := (gP_o ((congrFun (f_QueryReader_2 (g := (gN gS_11 549 (.inl 4))) (r := 549) (t := (549 + 1)) (a1 := 501) (a2 := 7) (by omega) (by omega)) 12).trans (gN_f gS_11_f12)) (by omega))
theorem gS_12_f13 : gS_12.2 2 13 = some 501 := (gP_o ((congrFun (f_QueryReader_2 (g := (gN gS_11 549 (.inl 4))) (r := 549) (t := (549 + 1)) (a1 := 501) (a2 := 7) (by omega) (by omega)) 13).trans (gN_f gS_11_f13)) (by omega))
theorem gS_12_f14 : gS_12.2 2 14 = some 506 := (gP_o ((congrFun (f_QueryReader_2 (g := (gN gS_11 549 (.inl 4))) (r := 549) (t := (549 + 1)) (a1 := 501) (a2 := 7) (by omega) (by omega)) 14).trans (gN_f gS_11_f14)) (by omega))
theorem gS_12_f15 : gS_12.2 2 15 = some 549 := gP_g
theorem gS_ok_d7 : g_Desk gS_12 7 := by
  unfold g_Desk g_Taxi g_Ride
  refine ⟨?_, ?_, ?_, ?_, ?_, ?_, ?_, ?_, ?_, ?_, ?_⟩ <;> decide +kernel
theorem gS_ok_d449 : g_Desk gS_12 449 := by
  unfold g_Desk g_Taxi g_Ride
  refine ⟨?_, ?_, ?_, ?_, ?_, ?_, ?_, ?_, ?_, ?_, ?_⟩ <;> decide +kernel
theorem gS_ok_d509 : g_Desk gS_12 509 := by
  unfold g_Desk g_Taxi g_Ride
  refine ⟨?_, ?_, ?_, ?_, ?_, ?_, ?_, ?_, ?_, ?_, ?_⟩ <;> decide +kernel
theorem gS_ok_d49 : g_Desk gS_12 49 := by
  unfold g_Desk g_Taxi g_Ride
  refine ⟨?_, ?_, ?_, ?_, ?_, ?_, ?_, ?_, ?_, ?_, ?_⟩ <;> decide +kernel
theorem gS_ok_d89 : g_Desk gS_12 89 := by
  unfold g_Desk g_Taxi g_Ride
  refine ⟨?_, ?_, ?_, ?_, ?_, ?_, ?_, ?_, ?_, ?_, ?_⟩ <;> decide +kernel
theorem gS_ok_d129 : g_Desk gS_12 129 := by
  unfold g_Desk g_Taxi g_Ride
  refine ⟨?_, ?_, ?_, ?_, ?_, ?_, ?_, ?_, ?_, ?_, ?_⟩ <;> decide +kernel
theorem gS_ok_d169 : g_Desk gS_12 169 := by
  unfold g_Desk g_Taxi g_Ride
  refine ⟨?_, ?_, ?_, ?_, ?_, ?_, ?_, ?_, ?_, ?_, ?_⟩ <;> decide +kernel
theorem gS_ok_d209 : g_Desk gS_12 209 := by
  unfold g_Desk g_Taxi g_Ride
  refine ⟨?_, ?_, ?_, ?_, ?_, ?_, ?_, ?_, ?_, ?_, ?_⟩ <;> decide +kernel
theorem gS_ok_d249 : g_Desk gS_12 249 := by
  unfold g_Desk g_Taxi g_Ride
  refine ⟨?_, ?_, ?_, ?_, ?_, ?_, ?_, ?_, ?_, ?_, ?_⟩ <;> decide +kernel
theorem gS_ok_d289 : g_Desk gS_12 289 := by
  unfold g_Desk g_Taxi g_Ride
  refine ⟨?_, ?_, ?_, ?_, ?_, ?_, ?_, ?_, ?_, ?_, ?_⟩ <;> decide +kernel
theorem gS_ok_d329 : g_Desk gS_12 329 := by
  unfold g_Desk g_Taxi g_Ride
  refine ⟨?_, ?_, ?_, ?_, ?_, ?_, ?_, ?_, ?_, ?_, ?_⟩ <;> decide +kernel
theorem gS_ok_d369 : g_Desk gS_12 369 := by
  unfold g_Desk g_Taxi g_Ride
  refine ⟨?_, ?_, ?_, ?_, ?_, ?_, ?_, ?_, ?_, ?_, ?_⟩ <;> decide +kernel
theorem gS_ok_d409 : g_Desk gS_12 409 := by
  unfold g_Desk g_Taxi g_Ride
  refine ⟨?_, ?_, ?_, ?_, ?_, ?_, ?_, ?_, ?_, ?_, ?_⟩ <;> decide +kernel
set_option maxRecDepth 100000 in
theorem gS_ok : g_Sys gS_12 2 := ⟨(by decide +kernel), (by decide +kernel), (by decide +kernel), (by decide +kernel), (by decide +kernel), (by decide +kernel), (by unfold g_Town; decide +kernel), (by decide +kernel), (gS_ok_d7), (by decide +kernel), (by decide +kernel), (gS_ok_d449), (by decide +kernel), (by decide +kernel), (by decide +kernel), (by decide +kernel), (by decide +kernel), (by decide +kernel), (by decide +kernel), (by decide +kernel), (by decide +kernel), (by decide +kernel), (fun i hi => by rcases (show i = 0 ∨ i = 1 ∨ i = 2 ∨ i = 3 ∨ i = 4 ∨ i = 5 ∨ i = 6 ∨ i = 7 ∨ i = 8 ∨ i = 9 by omega) with rfl | rfl | rfl | rfl | rfl | rfl | rfl | rfl | rfl | rfl <;> first | exact gS_ok_d49 | exact gS_ok_d89 | exact gS_ok_d129 | exact gS_ok_d169 | exact gS_ok_d209 | exact gS_ok_d249 | exact gS_ok_d289 | exact gS_ok_d329 | exact gS_ok_d369 | exact gS_ok_d409), (by decide +kernel), (by decide +kernel), (by unfold g_Town; decide +kernel), (by decide +kernel), (gS_ok_d7), (by decide +kernel), (by decide +kernel), (by decide +kernel), (by decide +kernel), (by decide +kernel), (by decide +kernel), (by decide +kernel), (by decide +kernel), (by decide +kernel), (by decide +kernel), (by decide +kernel), (by decide +kernel), (by decide +kernel), (by decide +kernel), (by decide +kernel), (by decide +kernel), (by unfold g_Town; decide +kernel), (by decide +kernel), (gS_ok_d7), (by decide +kernel), (by decide +kernel), (by unfold g_Taxi; decide +kernel), (by decide +kernel), (by decide +kernel), (by decide +kernel), (by decide +kernel), (by decide +kernel), (by decide +kernel), (by decide +kernel), (by decide +kernel), (by decide +kernel), (by decide +kernel), (by decide +kernel), (by decide +kernel), (by decide +kernel), (by unfold g_Town; decide +kernel), (by decide +kernel), (gS_ok_d509), (by decide +kernel), (by decide +kernel), (by decide +kernel), (by decide +kernel), (gS_ok_d7)⟩
def mS_0 (X : z_X) (M : z_Mem) : z_Mem := (z_wI (z_wI (z_wI (z_wI (z_wI (z_wI (z_wI M (z_o X + 2) 1 0) (z_o X + 2) 2 (-1)) (z_o X + 2) 4 0) (z_o X + 47) 0 0) (z_o X + 47) 1 0) (z_o X + 2) 9 0) (z_o X + 501) 1 (-1))
set_option maxRecDepth 100000 in
theorem c_Sys {X : z_X} (hX : z_ok X) (hC : z_okC X) {M MA MB : z_Mem} (hA : F_Town_clear (z_o X + 5) 2 (mS_0 X M) = some MA) (hB : F_Desk_clear (z_o X + 7) (z_cut X 550 MA) = some MB) : z_CtN X yX11_init cX11_init 1 ({ frames := 4, cells := 547, slots := 12733, locals := 74 } : Room) [.ref (z_o X + 2)] gS_0 3 M gS_12 550 (z_cut X 550 MB) := by
  have hG : g_Sys (z_sh X gS_12) (z_o X + 2) := sh_Sys gS_ok
  refine z_enterN hX (by decide) rfl (Nat.le_of_ble_eq_true rfl) (fun F B hR hi => ?_)
  show z_N X F 1 _ 0 0 0 [(0, .ref (z_o X + 2))] [] gS_0 3 M
  refine zn_aload_n (pc := 0) B dX11_init_0 0 rfl rfl ?_
  refine zn_oinit (pc := 1) B hR km_11_1 dX11_init_1 (Nat.le_of_ble_eq_true rfl) (Nat.le_of_ble_eq_true rfl) ko_i ko_c ?_
  refine zn_aload_n (pc := 4) B dX11_init_4 0 rfl rfl ?_
  refine zn_sipush (v := 800) (pc := 5) B dX11_init_5 (by decide) ?_
  refine zn_newB (pc := 8) (N := 800) B hR ka_byte (by decide) (by decide) (by decide) (Nat.le_of_ble_eq_true rfl) (Nat.le_of_ble_eq_true rfl) dX11_init_8 ?_
  refine zn_putf (pc := 10) B kx_11 (gN_k gS_0_s (by omega)) (by omega) 0 (by decide) kf_11_9 rfl rfl hi rfl (fun _ => rfl) (fun _ => rfl) dX11_init_10 ?_
  refine zn_at (g9 := gS_1) (t9 := 4) rfl rfl ?_
  refine zn_aload_n (pc := 13) B dX11_init_13 0 rfl rfl ?_
  refine zn_iconst (v := 0) (pc := 14) B dX11_init_14 (by decide) ?_
  refine zn_puti (pc := 15) B kx_11 gS_1_s (by omega) 1 (by decide) kf_11_13 rfl rfl rfl rfl dX11_init_15 ?_
  refine zn_aload_n (pc := 18) B dX11_init_18 0 rfl rfl ?_
  refine zn_iconst (v := -1) (pc := 19) B dX11_init_19 (by decide) ?_
  refine zn_puti (pc := 20) B kx_11 gS_1_s (by omega) 2 (by decide) kf_11_17 rfl rfl rfl rfl dX11_init_20 ?_
  refine zn_aload_n (pc := 23) B dX11_init_23 0 rfl rfl ?_
  refine zn_bipush (v := 80) (pc := 24) B dX11_init_24 (by decide) ?_
  refine zn_newB (pc := 26) (N := 80) B hR ka_byte (by decide) (by decide) (by decide) (Nat.le_of_ble_eq_true rfl) (Nat.le_of_ble_eq_true rfl) dX11_init_26 ?_
  refine zn_putf (pc := 28) B kx_11 (gN_k gS_1_s (by omega)) (by omega) 3 (by decide) kf_11_20 rfl rfl hi rfl (fun _ => rfl) (fun _ => rfl) dX11_init_28 ?_
  refine zn_at (g9 := gS_2) (t9 := 5) rfl rfl ?_
  refine zn_aload_n (pc := 31) B dX11_init_31 0 rfl rfl ?_
  refine zn_iconst (v := 0) (pc := 32) B dX11_init_32 (by decide) ?_
  refine zn_puti (pc := 33) B kx_11 gS_2_s (by omega) 4 (by decide) kf_11_23 rfl rfl rfl rfl dX11_init_33 ?_
  refine zn_aload_n (pc := 36) B dX11_init_36 0 rfl rfl ?_
  refine zn_new (pc := 37) B hR kx_9 kk_11_26 kn_9 ki_9 (Nat.le_of_ble_eq_true rfl) (Nat.le_of_ble_eq_true rfl) kT_9 dX11_init_37 ?_
  refine zn_dup (pc := 40) B dX11_init_40 rfl ?_
  refine zn_run (pc := 41) (k' := 4) (n' := 947) rfl rfl rfl (zr_IN (own := RX11) (host := RX11) B hC hR 0 kI_yX9_init ki_9 rfl (by decide +kernel) (by simp [z_nct]) [] rfl rfl (Nat.le_of_ble_eq_true rfl) dX11_init_41 (c_Town hX hC (g := (gN gS_2 5 (.inl 9))) (t := (5 + 1)) (M := (z_wI (z_wI (z_wI M (z_o X + 2) 1 0) (z_o X + 2) 2 (-1)) (z_o X + 2) 4 0)) (r := 5) gN_n (by omega)) ⟨(Nat.le_of_ble_eq_true rfl), (Nat.le_of_ble_eq_true rfl)⟩ ⟨(Nat.le_of_ble_eq_true rfl), (Nat.le_of_ble_eq_true rfl)⟩) ?_
  refine zn_putf (pc := 44) B kx_11 ((f_Town_1 (g := (gN gS_2 5 (.inl 9))) (r := 5) (t := (5 + 1)) (by omega)).trans (gN_k gS_2_s (by omega))) (by omega) 5 (by decide) kf_11_29 rfl rfl hi rfl (fun _ => rfl) (fun _ => rfl) dX11_init_44 ?_
  refine zn_at (g9 := gS_3) (t9 := 7) rfl rfl ?_
  refine zn_aload_n (pc := 47) B dX11_init_47 0 rfl rfl ?_
  refine zn_new (pc := 48) B hR kx_0 kk_11_33 kn_0 ki_0 (Nat.le_of_ble_eq_true rfl) (Nat.le_of_ble_eq_true rfl) kT_0 dX11_init_48 ?_
  refine zn_dup (pc := 51) B dX11_init_51 rfl ?_
  refine zn_run (pc := 52) (k' := 44) (n' := 1589) rfl rfl rfl (zr_I B hR 0 kI_yX0_init ki_0 rfl (by decide +kernel) km_11_35 [] rfl rfl (Nat.le_of_ble_eq_true rfl) dX11_init_52 (c_Desk hX hC (g := (gN gS_3 7 (.inl 0))) (t := (7 + 1)) (M := (z_wI (z_wI (z_wI M (z_o X + 2) 1 0) (z_o X + 2) 2 (-1)) (z_o X + 2) 4 0)) (r := 7) gN_n (by omega)) ⟨(Nat.le_of_ble_eq_true rfl), (Nat.le_of_ble_eq_true rfl)⟩ ⟨(Nat.le_of_ble_eq_true rfl), (Nat.le_of_ble_eq_true rfl)⟩) ?_
  refine zn_putf (pc := 55) B kx_11 ((f_Desk_1 (g := (gN gS_3 7 (.inl 0))) (r := 7) (t := (7 + 1)) (by omega)).trans (gN_k gS_3_s (by omega))) (by omega) 6 (by decide) kf_11_36 rfl rfl hi rfl (fun _ => rfl) (fun _ => rfl) dX11_init_55 ?_
  refine zn_at (g9 := gS_4) (t9 := 47) rfl rfl ?_
  refine zn_aload_n (pc := 58) B dX11_init_58 0 rfl rfl ?_
  refine zn_new (pc := 59) B hR kx_1 kk_11_40 kn_1 ki_1 (Nat.le_of_ble_eq_true rfl) (Nat.le_of_ble_eq_true rfl) kT_1 dX11_init_59 ?_
  refine zn_dup (pc := 62) B dX11_init_62 rfl ?_
  refine zn_run (pc := 63) (k' := 446) (n' := 8022) rfl rfl rfl (zr_I B hR 0 kI_yX1_init ki_1 rfl (by decide +kernel) km_11_42 [] rfl rfl (Nat.le_of_ble_eq_true rfl) dX11_init_63 (c_History hX hC (g := (gN gS_4 47 (.inl 1))) (t := (47 + 1)) (M := (z_wI (z_wI (z_wI M (z_o X + 2) 1 0) (z_o X + 2) 2 (-1)) (z_o X + 2) 4 0)) (r := 47) gN_n (by omega)) ⟨(Nat.le_of_ble_eq_true rfl), (Nat.le_of_ble_eq_true rfl)⟩ ⟨(Nat.le_of_ble_eq_true rfl), (Nat.le_of_ble_eq_true rfl)⟩) ?_
  refine zn_putf (pc := 66) B kx_11 ((f_History_1 (g := (gN gS_4 47 (.inl 1))) (r := 47) (t := (47 + 1)) (by omega)).trans (gN_k gS_4_s (by omega))) (by omega) 7 (by decide) kf_11_43 rfl rfl hi rfl (fun _ => rfl) (fun _ => rfl) dX11_init_66 ?_
  refine zn_at (g9 := gS_5) (t9 := 449) rfl rfl ?_
  refine zn_aload_n (pc := 69) B dX11_init_69 0 rfl rfl ?_
  refine zn_new (pc := 70) B hR kx_0 kk_11_33 kn_0 ki_0 (Nat.le_of_ble_eq_true rfl) (Nat.le_of_ble_eq_true rfl) kT_0 dX11_init_70 ?_
  refine zn_dup (pc := 73) B dX11_init_73 rfl ?_
  refine zn_run (pc := 74) (k' := 486) (n' := 8664) rfl rfl rfl (zr_I B hR 0 kI_yX0_init ki_0 rfl (by decide +kernel) km_11_35 [] rfl rfl (Nat.le_of_ble_eq_true rfl) dX11_init_74 (c_Desk hX hC (g := (gN gS_5 449 (.inl 0))) (t := (449 + 1)) (M := (z_wI (z_wI (z_wI (z_wI (z_wI M (z_o X + 2) 1 0) (z_o X + 2) 2 (-1)) (z_o X + 2) 4 0) (z_o X + 47) 0 0) (z_o X + 47) 1 0)) (r := 449) gN_n (by omega)) ⟨(Nat.le_of_ble_eq_true rfl), (Nat.le_of_ble_eq_true rfl)⟩ ⟨(Nat.le_of_ble_eq_true rfl), (Nat.le_of_ble_eq_true rfl)⟩) ?_
  refine zn_putf (pc := 77) B kx_11 ((f_Desk_1 (g := (gN gS_5 449 (.inl 0))) (r := 449) (t := (449 + 1)) (by omega)).trans (gN_k gS_5_s (by omega))) (by omega) 8 (by decide) kf_11_47 rfl rfl hi rfl (fun _ => rfl) (fun _ => rfl) dX11_init_77 ?_
  refine zn_at (g9 := gS_6) (t9 := 489) rfl rfl ?_
  refine zn_aload_n (pc := 80) B dX11_init_80 0 rfl rfl ?_
  refine zn_iconst (v := 0) (pc := 81) B dX11_init_81 (by decide) ?_
  refine zn_puti (pc := 82) B kx_11 gS_6_s (by omega) 9 (by decide) kf_11_50 rfl rfl rfl rfl dX11_init_82 ?_
  refine zn_aload_n (pc := 85) B dX11_init_85 0 rfl rfl ?_
  refine zn_new (pc := 86) B hR kx_3 kk_11_54 kn_3 ki_3 (Nat.le_of_ble_eq_true rfl) (Nat.le_of_ble_eq_true rfl) kT_3 dX11_init_86 ?_
  refine zn_dup (pc := 89) B dX11_init_89 rfl ?_
  refine zn_aload_n (pc := 90) B dX11_init_90 0 rfl rfl ?_
  refine zn_getr (pc := 91) (b := 5) B kx_11 (gN_k gS_6_s (by omega)) 5 (by decide) kf_11_29 rfl (gN_f gS_6_f5) dX11_init_91 ?_
  refine zn_aload_n (pc := 94) B dX11_init_94 0 rfl rfl ?_
  refine zn_getr (pc := 95) (b := 7) B kx_11 (gN_k gS_6_s (by omega)) 6 (by decide) kf_11_36 rfl (gN_f gS_6_f6) dX11_init_95 ?_
  refine zn_run (pc := 98) (k' := 493) (n' := 8759) rfl rfl rfl (zr_I B hR 2 kI_yX3_init ki_3 rfl (by decide +kernel) km_11_56 [.ref (z_o X + 5), .ref (z_o X + 7)] rfl rfl (Nat.le_of_ble_eq_true rfl) dX11_init_98 (c_Plan hX hC (g := (gN gS_6 489 (.inl 3))) (t := (489 + 1)) (M := (z_wI (z_wI (z_wI (z_wI (z_wI (z_wI M (z_o X + 2) 1 0) (z_o X + 2) 2 (-1)) (z_o X + 2) 4 0) (z_o X + 47) 0 0) (z_o X + 47) 1 0) (z_o X + 2) 9 0)) (r := 489) (a1 := 5) (a2 := 7) gN_n (by omega)) ⟨(Nat.le_of_ble_eq_true rfl), (Nat.le_of_ble_eq_true rfl)⟩ ⟨(Nat.le_of_ble_eq_true rfl), (Nat.le_of_ble_eq_true rfl)⟩) ?_
  refine zn_putf (pc := 101) B kx_11 ((f_Plan_1 (g := (gN gS_6 489 (.inl 3))) (r := 489) (t := (489 + 1)) (a1 := 5) (a2 := 7) (by omega)).trans (gN_k gS_6_s (by omega))) (by omega) 10 (by decide) kf_11_59 rfl rfl hi rfl (fun _ => rfl) (fun _ => rfl) dX11_init_101 ?_
  refine zn_at (g9 := gS_7) (t9 := 496) rfl rfl ?_
  refine zn_aload_n (pc := 104) B dX11_init_104 0 rfl rfl ?_
  refine zn_new (pc := 105) B hR kx_2 kk_11_63 kn_2 ki_2 (Nat.le_of_ble_eq_true rfl) (Nat.le_of_ble_eq_true rfl) kT_2 dX11_init_105 ?_
  refine zn_dup (pc := 108) B dX11_init_108 rfl ?_
  refine zn_aload_n (pc := 109) B dX11_init_109 0 rfl rfl ?_
  refine zn_getr (pc := 110) (b := 489) B kx_11 (gN_k gS_7_s (by omega)) 10 (by decide) kf_11_59 rfl (gN_f gS_7_f10) dX11_init_110 ?_
  refine zn_run (pc := 113) (k' := 494) (n' := 8765) rfl rfl rfl (zr_I B hR 1 kI_yX2_init ki_2 rfl (by decide +kernel) km_11_65 [.ref (z_o X + 489)] rfl rfl (Nat.le_of_ble_eq_true rfl) dX11_init_113 (c_Insertion hX hC (g := (gN gS_7 496 (.inl 2))) (t := (496 + 1)) (M := (z_wI (z_wI (z_wI (z_wI (z_wI (z_wI M (z_o X + 2) 1 0) (z_o X + 2) 2 (-1)) (z_o X + 2) 4 0) (z_o X + 47) 0 0) (z_o X + 47) 1 0) (z_o X + 2) 9 0)) (r := 496) (a1 := 489) gN_n (by omega)) ⟨(Nat.le_of_ble_eq_true rfl), (Nat.le_of_ble_eq_true rfl)⟩ ⟨(Nat.le_of_ble_eq_true rfl), (Nat.le_of_ble_eq_true rfl)⟩) ?_
  refine zn_putf (pc := 116) B kx_11 ((f_Insertion_1 (g := (gN gS_7 496 (.inl 2))) (r := 496) (t := (496 + 1)) (a1 := 489) (by omega)).trans (gN_k gS_7_s (by omega))) (by omega) 11 (by decide) kf_11_68 rfl rfl hi rfl (fun _ => rfl) (fun _ => rfl) dX11_init_116 ?_
  refine zn_at (g9 := gS_8) (t9 := 497) rfl rfl ?_
  refine zn_aload_n (pc := 119) B dX11_init_119 0 rfl rfl ?_
  refine zn_new (pc := 120) B hR kx_10 kk_11_72 kn_10 ki_10 (Nat.le_of_ble_eq_true rfl) (Nat.le_of_ble_eq_true rfl) kT_10 dX11_init_120 ?_
  refine zn_dup (pc := 123) B dX11_init_123 rfl ?_
  refine zn_aload_n (pc := 124) B dX11_init_124 0 rfl rfl ?_
  refine zn_getr (pc := 125) (b := 5) B kx_11 (gN_k gS_8_s (by omega)) 5 (by decide) kf_11_29 rfl (gN_f gS_8_f5) dX11_init_125 ?_
  refine zn_aload_n (pc := 128) B dX11_init_128 0 rfl rfl ?_
  refine zn_getr (pc := 129) (b := 7) B kx_11 (gN_k gS_8_s (by omega)) 6 (by decide) kf_11_36 rfl (gN_f gS_8_f6) dX11_init_129 ?_
  refine zn_aload_n (pc := 132) B dX11_init_132 0 rfl rfl ?_
  refine zn_getr (pc := 133) (b := 489) B kx_11 (gN_k gS_8_s (by omega)) 10 (by decide) kf_11_59 rfl (gN_f gS_8_f10) dX11_init_133 ?_
  refine zn_run (pc := 136) (k' := 498) (n' := 8804) rfl rfl rfl (zr_I B hR 3 kI_yX10_init ki_10 rfl (by decide +kernel) km_11_74 [.ref (z_o X + 5), .ref (z_o X + 7), .ref (z_o X + 489)] rfl rfl (Nat.le_of_ble_eq_true rfl) dX11_init_136 (c_Traffic hX hC (g := (gN gS_8 497 (.inl 10))) (t := (497 + 1)) (M := (z_wI (z_wI (z_wI (z_wI (z_wI (z_wI M (z_o X + 2) 1 0) (z_o X + 2) 2 (-1)) (z_o X + 2) 4 0) (z_o X + 47) 0 0) (z_o X + 47) 1 0) (z_o X + 2) 9 0)) (r := 497) (a1 := 5) (a2 := 7) (a3 := 489) gN_n (by omega)) ⟨(Nat.le_of_ble_eq_true rfl), (Nat.le_of_ble_eq_true rfl)⟩ ⟨(Nat.le_of_ble_eq_true rfl), (Nat.le_of_ble_eq_true rfl)⟩) ?_
  refine zn_putf (pc := 139) B kx_11 ((f_Traffic_1 (g := (gN gS_8 497 (.inl 10))) (r := 497) (t := (497 + 1)) (a1 := 5) (a2 := 7) (a3 := 489) (by omega)).trans (gN_k gS_8_s (by omega))) (by omega) 12 (by decide) kf_11_77 rfl rfl hi rfl (fun _ => rfl) (fun _ => rfl) dX11_init_139 ?_
  refine zn_at (g9 := gS_9) (t9 := 501) rfl rfl ?_
  refine zn_aload_n (pc := 142) B dX11_init_142 0 rfl rfl ?_
  refine zn_new (pc := 143) B hR kx_8 kk_11_81 kn_8 ki_8 (Nat.le_of_ble_eq_true rfl) (Nat.le_of_ble_eq_true rfl) kT_8 dX11_init_143 ?_
  refine zn_dup (pc := 146) B dX11_init_146 rfl ?_
  refine zn_aload_n (pc := 147) B dX11_init_147 0 rfl rfl ?_
  refine zn_getr (pc := 148) (b := 3) B kx_11 (gN_k gS_9_s (by omega)) 0 (by decide) kf_11_9 rfl (gN_f gS_9_f0) dX11_init_148 ?_
  refine zn_run (pc := 151) (k' := 503) (n' := 12019) rfl rfl rfl (zr_I B hR 1 kI_yX8_init ki_8 rfl (by decide +kernel) km_11_83 [.ref (z_o X + 3)] rfl rfl (Nat.le_of_ble_eq_true rfl) dX11_init_151 (c_Tokens hX hC (g := (gN gS_9 501 (.inl 8))) (t := (501 + 1)) (M := (z_wI (z_wI (z_wI (z_wI (z_wI (z_wI M (z_o X + 2) 1 0) (z_o X + 2) 2 (-1)) (z_o X + 2) 4 0) (z_o X + 47) 0 0) (z_o X + 47) 1 0) (z_o X + 2) 9 0)) (r := 501) (a1 := 3) gN_n (by omega)) ⟨(Nat.le_of_ble_eq_true rfl), (Nat.le_of_ble_eq_true rfl)⟩ ⟨(Nat.le_of_ble_eq_true rfl), (Nat.le_of_ble_eq_true rfl)⟩) ?_
  refine zn_putf (pc := 154) B kx_11 ((f_Tokens_1 (g := (gN gS_9 501 (.inl 8))) (r := 501) (t := (501 + 1)) (a1 := 3) (by omega)).trans (gN_k gS_9_s (by omega))) (by omega) 13 (by decide) kf_11_86 rfl rfl hi rfl (fun _ => rfl) (fun _ => rfl) dX11_init_154 ?_
  refine zn_at (g9 := gS_10) (t9 := 506) rfl rfl ?_
  refine zn_aload_n (pc := 157) B dX11_init_157 0 rfl rfl ?_
  refine zn_new (pc := 158) B hR kx_7 kk_11_90 kn_7 ki_7 (Nat.le_of_ble_eq_true rfl) (Nat.le_of_ble_eq_true rfl) kT_7 dX11_init_158 ?_
  refine zn_dup (pc := 161) B dX11_init_161 rfl ?_
  refine zn_aload_n (pc := 162) B dX11_init_162 0 rfl rfl ?_
  refine zn_getr (pc := 163) (b := 501) B kx_11 (gN_k gS_10_s (by omega)) 13 (by decide) kf_11_86 rfl (gN_f gS_10_f13) dX11_init_163 ?_
  refine zn_run (pc := 166) (k' := 546) (n' := 12731) rfl rfl rfl (zr_I B hR 1 kI_yX7_init ki_7 rfl (by decide +kernel) km_11_92 [.ref (z_o X + 501)] rfl rfl (Nat.le_of_ble_eq_true rfl) dX11_init_166 (c_TextReader hX hC (g := (gN gS_10 506 (.inl 7))) (t := (506 + 1)) (M := (z_wI (z_wI (z_wI (z_wI (z_wI (z_wI (z_wI M (z_o X + 2) 1 0) (z_o X + 2) 2 (-1)) (z_o X + 2) 4 0) (z_o X + 47) 0 0) (z_o X + 47) 1 0) (z_o X + 2) 9 0) (z_o X + 501) 1 (-1))) (r := 506) (a1 := 501) gN_n (by omega)) ⟨(Nat.le_of_ble_eq_true rfl), (Nat.le_of_ble_eq_true rfl)⟩ ⟨(Nat.le_of_ble_eq_true rfl), (Nat.le_of_ble_eq_true rfl)⟩) ?_
  refine zn_putf (pc := 169) B kx_11 ((f_TextReader_1 (g := (gN gS_10 506 (.inl 7))) (r := 506) (t := (506 + 1)) (a1 := 501) (by omega)).trans (gN_k gS_10_s (by omega))) (by omega) 14 (by decide) kf_11_95 rfl rfl hi rfl (fun _ => rfl) (fun _ => rfl) dX11_init_169 ?_
  refine zn_at (g9 := gS_11) (t9 := 549) rfl rfl ?_
  refine zn_aload_n (pc := 172) B dX11_init_172 0 rfl rfl ?_
  refine zn_new (pc := 173) B hR kx_4 kk_11_99 kn_4 ki_4 (Nat.le_of_ble_eq_true rfl) (Nat.le_of_ble_eq_true rfl) kT_4 dX11_init_173 ?_
  refine zn_dup (pc := 176) B dX11_init_176 rfl ?_
  refine zn_aload_n (pc := 177) B dX11_init_177 0 rfl rfl ?_
  refine zn_getr (pc := 178) (b := 501) B kx_11 (gN_k gS_11_s (by omega)) 13 (by decide) kf_11_86 rfl (gN_f gS_11_f13) dX11_init_178 ?_
  refine zn_aload_n (pc := 181) B dX11_init_181 0 rfl rfl ?_
  refine zn_getr (pc := 182) (b := 7) B kx_11 (gN_k gS_11_s (by omega)) 6 (by decide) kf_11_36 rfl (gN_f gS_11_f6) dX11_init_182 ?_
  refine zn_run (pc := 185) (k' := 547) (n' := 12733) rfl rfl rfl (zr_I B hR 2 kI_yX4_init ki_4 rfl (by decide +kernel) km_11_101 [.ref (z_o X + 501), .ref (z_o X + 7)] rfl rfl (Nat.le_of_ble_eq_true rfl) dX11_init_185 (c_QueryReader hX hC (g := (gN gS_11 549 (.inl 4))) (t := (549 + 1)) (M := (z_wI (z_wI (z_wI (z_wI (z_wI (z_wI (z_wI M (z_o X + 2) 1 0) (z_o X + 2) 2 (-1)) (z_o X + 2) 4 0) (z_o X + 47) 0 0) (z_o X + 47) 1 0) (z_o X + 2) 9 0) (z_o X + 501) 1 (-1))) (r := 549) (a1 := 501) (a2 := 7) gN_n (by omega)) ⟨(Nat.le_of_ble_eq_true rfl), (Nat.le_of_ble_eq_true rfl)⟩ ⟨(Nat.le_of_ble_eq_true rfl), (Nat.le_of_ble_eq_true rfl)⟩) ?_
  refine zn_putf (pc := 188) B kx_11 ((f_QueryReader_1 (g := (gN gS_11 549 (.inl 4))) (r := 549) (t := (549 + 1)) (a1 := 501) (a2 := 7) (by omega)).trans (gN_k gS_11_s (by omega))) (by omega) 15 (by decide) kf_11_104 rfl rfl hi rfl (fun _ => rfl) (fun _ => rfl) dX11_init_188 ?_
  refine zn_at (g9 := gS_12) (t9 := 550) rfl rfl ?_
  refine zn_aload_n (pc := 191) B dX11_init_191 0 rfl rfl ?_
  refine zn_getr (pc := 192) (b := 5) B kx_11 gS_12_s 5 (by decide) kf_11_29 rfl gS_12_f5 dX11_init_192 ?_
  refine zn_iconst (v := 2) (pc := 195) B dX11_init_195 (by decide) ?_
  refine zn_keep (pc := 196) (M1 := MA) (n' := 12733) rfl (zr_V B hR kV_yX9_clear km_11_108 kx_9 (gTown_s (gSys_t5 hG)) [.int 2] rfl rfl (Nat.le_of_ble_eq_true rfl) dX11_init_196 (m_Town_clear hX (gSys_t5 hG) 2 _ MA hA) ⟨(Nat.le_of_ble_eq_true rfl), (Nat.le_of_ble_eq_true rfl)⟩ ⟨(Nat.le_of_ble_eq_true rfl), (Nat.le_of_ble_eq_true rfl)⟩) ?_
  refine zn_aload_n (pc := 199) B dX11_init_199 0 rfl rfl ?_
  refine zn_getr (pc := 200) (b := 7) B kx_11 gS_12_s 6 (by decide) kf_11_36 rfl gS_12_f6 dX11_init_200 ?_
  refine zn_keep (pc := 203) (M1 := MB) (n' := 12733) rfl (zr_V B hR kV_yX0_clear km_11_112 kx_0 (gDesk_s (gSys_t6 hG)) [] rfl rfl (Nat.le_of_ble_eq_true rfl) dX11_init_203 (m_Desk_clear hX (gSys_t6 hG) _ MB hB) ⟨(Nat.le_of_ble_eq_true rfl), (Nat.le_of_ble_eq_true rfl)⟩ ⟨(Nat.le_of_ble_eq_true rfl), (Nat.le_of_ble_eq_true rfl)⟩) ?_
  exact zn_vret (pc := 206) B dX11_init_206 rfl (Nat.le_of_ble_eq_true rfl) (Nat.le_of_ble_eq_true rfl) rfl rfl rfl
theorem gS_law : g_Law gS_12 0 := ⟨by decide +kernel, by decide +kernel, by decide +kernel⟩
