/-! ===== the constructors (by program) ===== -/
theorem kn_0 : Cond.instantiable RX0 8 ∈ z_tbl := z_in 166 (by decide +kernel) rfl
theorem kT_0 : ∀ j, j < 8 → z_okT (z_ty 0 j) = true := by decide
theorem kn_1 : Cond.instantiable RX1 3 ∈ z_tbl := z_in 423 (by decide +kernel) rfl
theorem kT_1 : ∀ j, j < 3 → z_okT (z_ty 1 j) = true := by decide
theorem kn_2 : Cond.instantiable RX2 6 ∈ z_tbl := z_in 485 (by decide +kernel) rfl
theorem kT_2 : ∀ j, j < 6 → z_okT (z_ty 2 j) = true := by decide
theorem kn_3 : Cond.instantiable RX3 11 ∈ z_tbl := z_in 443 (by decide +kernel) rfl
theorem kT_3 : ∀ j, j < 11 → z_okT (z_ty 3 j) = true := by decide
theorem kn_4 : Cond.instantiable RX4 2 ∈ z_tbl := z_in 600 (by decide +kernel) rfl
theorem kT_4 : ∀ j, j < 2 → z_okT (z_ty 4 j) = true := by decide
theorem kn_5 : Cond.instantiable RX5 19 ∈ z_tbl := z_in 269 (by decide +kernel) rfl
theorem kT_5 : ∀ j, j < 19 → z_okT (z_ty 5 j) = true := by decide
theorem kn_6 : Cond.instantiable RX6 17 ∈ z_tbl := z_in 175 (by decide +kernel) rfl
theorem kT_6 : ∀ j, j < 17 → z_okT (z_ty 6 j) = true := by decide
theorem kn_7 : Cond.instantiable RX7 3 ∈ z_tbl := z_in 578 (by decide +kernel) rfl
theorem kT_7 : ∀ j, j < 3 → z_okT (z_ty 7 j) = true := by decide
theorem kn_8 : Cond.instantiable RX8 11 ∈ z_tbl := z_in 536 (by decide +kernel) rfl
theorem kT_8 : ∀ j, j < 11 → z_okT (z_ty 8 j) = true := by decide
theorem kn_9 : Cond.instantiable RX9 3 ∈ z_tbl := z_in 145 (by decide +kernel) rfl
theorem kT_9 : ∀ j, j < 3 → z_okT (z_ty 9 j) = true := by decide
theorem kn_10 : Cond.instantiable RX10 4 ∈ z_tbl := z_in 515 (by decide +kernel) rfl
theorem kT_10 : ∀ j, j < 4 → z_okT (z_ty 10 j) = true := by decide
theorem kn_11 : Cond.instantiable RX11 16 ∈ z_tbl := z_in 137 (by decide +kernel) rfl
theorem kT_11 : ∀ j, j < 16 → z_okT (z_ty 11 j) = true := by decide
theorem kn_12 : Cond.instantiable RX12 54 ∈ z_tbl := z_in 1523 (by decide +kernel) rfl
theorem kT_12 : ∀ j, j < 54 → z_okT (z_ty 12 j) = true := by decide
theorem ka_int : Cond.arrayClass .int ∈ z_tbl := z_in 164 (by decide +kernel) rfl
theorem ka_byte : Cond.arrayClass .byte ∈ z_tbl := z_in 163 (by decide +kernel) rfl
theorem ka_long : Cond.arrayClass .long ∈ z_tbl := z_in 2187 (by decide +kernel) rfl
theorem ko_i : Cond.instanceMethod objectInit ∈ z_tbl := z_in 142 (by decide +kernel) rfl
theorem ko_c : Cond.code objectInit ⟨#[0xb1]⟩ 1 none ∈ z_tbl := z_in 143 (by decide +kernel) rfl
theorem gN_1 {g : z_Gr} {t q : Nat} {sh : z_Sh} (h : q < t) : (gN g t sh).1 q = g.1 q := if_neg (by omega)
theorem gP_2 {g : z_Gr} {r k b q : Nat} (h : q ≠ r) : (gP g r k b).2 q = g.2 q := funext fun j => if_neg (by omega)
theorem zn_cast {X : z_X} {F : z_F} {nL : Nat} {Q : State → Prop} {k k' n n' pc t t' : Nat} {loc : List (Nat × Value)} {st : List Value} {g : z_Gr} {M : z_Mem} (hk : k = k') (hn : n = n') (ht : t = t') (kk : z_N X F nL Q k' n' pc loc st g t' M) : z_N X F nL Q k n pc loc st g t M := by
  subst hk; subst hn; subst ht
  exact kk
def f_Ride (g : z_Gr) (r t : Nat) : z_Gr := g
set_option maxRecDepth 100000 in
theorem c_Ride {X : z_X} (hX : z_ok X) (hC : z_okC X) {g : z_Gr} {t : Nat} {M : z_Mem} {r : Nat} (hg : g.1 r = some (.inl 5)) (hr : r < t) : z_CtN X yX5_init cX5_init 1 ({ frames := 1, cells := 0, slots := 0, locals := 12 } : Room) [.ref (z_o X + r)] g t M (f_Ride g r t) (t + 0) M := by
  refine z_enterN hX (by decide) rfl (Nat.le_of_ble_eq_true rfl) (fun F B hR hi => ?_)
  show z_N X F 1 _ 0 0 0 [(0, .ref (z_o X + r))] [] g t M
  refine zn_aload_n (pc := 0) B dX5_init_0 0 rfl rfl ?_
  refine zn_oinit (pc := 1) B hR km_5_3 dX5_init_1 (Nat.le_of_ble_eq_true rfl) (Nat.le_of_ble_eq_true rfl) ko_i ko_c ?_
  exact zn_vret (pc := 4) B dX5_init_4 rfl (Nat.le_of_ble_eq_true rfl) (Nat.le_of_ble_eq_true rfl) rfl rfl rfl
theorem f_Ride_1 {g : z_Gr} {r t q : Nat} (h : q < t) : (f_Ride g r t).1 q = g.1 q := rfl
theorem f_Ride_2 {g : z_Gr} {r t q : Nat} (h : q < t) (hne : q ≠ r) : (f_Ride g r t).2 q = g.2 q := rfl
def f_Taxi (g : z_Gr) (r t : Nat) : z_Gr := (gP (gN (gP (gN g t (.inr (0, 12))) r 9 t) (t + 1) (.inr (0, 6))) r 10 (t + 1))
set_option maxRecDepth 100000 in
theorem c_Taxi {X : z_X} (hX : z_ok X) (hC : z_okC X) {g : z_Gr} {t : Nat} {M : z_Mem} {r : Nat} (hg : g.1 r = some (.inl 6)) (hr : r < t) : z_CtN X yX6_init cX6_init 1 ({ frames := 1, cells := 2, slots := 18, locals := 12 } : Room) [.ref (z_o X + r)] g t M (f_Taxi g r t) (t + 2) M := by
  refine z_enterN hX (by decide) rfl (Nat.le_of_ble_eq_true rfl) (fun F B hR hi => ?_)
  show z_N X F 1 _ 0 0 0 [(0, .ref (z_o X + r))] [] g t M
  refine zn_aload_n (pc := 0) B dX6_init_0 0 rfl rfl ?_
  refine zn_oinit (pc := 1) B hR km_6_3 dX6_init_1 (Nat.le_of_ble_eq_true rfl) (Nat.le_of_ble_eq_true rfl) ko_i ko_c ?_
  refine zn_aload_n (pc := 4) B dX6_init_4 0 rfl rfl ?_
  refine zn_bipush (v := 12) (pc := 5) B dX6_init_5 (by decide) ?_
  refine zn_newI (pc := 7) (N := 12) B hR ka_int (by decide) (by decide) (by decide) (Nat.le_of_ble_eq_true rfl) (Nat.le_of_ble_eq_true rfl) dX6_init_7 ?_
  refine zn_putf (pc := 9) B kx_6 (gN_k hg (by omega)) (by omega) 9 (by decide) kf_6_9 rfl rfl hi rfl (fun _ => rfl) (fun _ => rfl) dX6_init_9 ?_
  refine zn_aload_n (pc := 12) B dX6_init_12 0 rfl rfl ?_
  refine zn_bipush (v := 6) (pc := 13) B dX6_init_13 (by decide) ?_
  refine zn_newI (pc := 15) (N := 6) B hR ka_int (by decide) (by decide) (by decide) (Nat.le_of_ble_eq_true rfl) (Nat.le_of_ble_eq_true rfl) dX6_init_15 ?_
  refine zn_putf (pc := 17) B kx_6 (gN_k (gP_k (gN_k hg (by omega))) (by omega)) (by omega) 10 (by decide) kf_6_15 rfl rfl hi rfl (fun _ => rfl) (fun _ => rfl) dX6_init_17 ?_
  exact zn_vret (pc := 20) B dX6_init_20 rfl (Nat.le_of_ble_eq_true rfl) (Nat.le_of_ble_eq_true rfl) rfl rfl rfl
theorem f_Taxi_1 {g : z_Gr} {r t q : Nat} (h : q < t) : (f_Taxi g r t).1 q = g.1 q := Eq.trans (rfl) (Eq.trans (gN_1 (by omega)) (Eq.trans (rfl) (gN_1 (by omega))))
theorem f_Taxi_2 {g : z_Gr} {r t q : Nat} (h : q < t) (hne : q ≠ r) : (f_Taxi g r t).2 q = g.2 q := Eq.trans (gP_2 (by omega)) (Eq.trans (rfl) (Eq.trans (gP_2 (by omega)) (rfl)))
def f_Town (g : z_Gr) (r t : Nat) : z_Gr := (gP (gN g t (.inr (0, 64))) r 2 t)
set_option maxRecDepth 100000 in
theorem c_Town {X : z_X} (hX : z_ok X) (hC : z_okC X) {g : z_Gr} {t : Nat} {M : z_Mem} {r : Nat} (hg : g.1 r = some (.inl 9)) (hr : r < t) : z_CtN X yX9_init cX9_init 1 ({ frames := 1, cells := 1, slots := 64, locals := 12 } : Room) [.ref (z_o X + r)] g t M (f_Town g r t) (t + 1) M := by
  refine z_enterN hX (by decide) rfl (Nat.le_of_ble_eq_true rfl) (fun F B hR hi => ?_)
  show z_N X F 1 _ 0 0 0 [(0, .ref (z_o X + r))] [] g t M
  refine zn_aload_n (pc := 0) B dX9_init_0 0 rfl rfl ?_
  refine zn_oinit (pc := 1) B hR km_9_3 dX9_init_1 (Nat.le_of_ble_eq_true rfl) (Nat.le_of_ble_eq_true rfl) ko_i ko_c ?_
  refine zn_aload_n (pc := 4) B dX9_init_4 0 rfl rfl ?_
  refine zn_bipush (v := 64) (pc := 5) B dX9_init_5 (by decide) ?_
  refine zn_newI (pc := 7) (N := 64) B hR ka_int (by decide) (by decide) (by decide) (Nat.le_of_ble_eq_true rfl) (Nat.le_of_ble_eq_true rfl) dX9_init_7 ?_
  refine zn_putf (pc := 9) B kx_9 (gN_k hg (by omega)) (by omega) 2 (by decide) kf_9_9 rfl rfl hi rfl (fun _ => rfl) (fun _ => rfl) dX9_init_9 ?_
  exact zn_vret (pc := 12) B dX9_init_12 rfl (Nat.le_of_ble_eq_true rfl) (Nat.le_of_ble_eq_true rfl) rfl rfl rfl
theorem f_Town_1 {g : z_Gr} {r t q : Nat} (h : q < t) : (f_Town g r t).1 q = g.1 q := Eq.trans (rfl) (gN_1 (by omega))
theorem f_Town_2 {g : z_Gr} {r t q : Nat} (h : q < t) (hne : q ≠ r) : (f_Town g r t).2 q = g.2 q := Eq.trans (gP_2 (by omega)) (rfl)
theorem z_i24 : ∀ i, i < 24 → (Int32.ofNat i).toNatClampNeg = i ∧ ¬ (Int32.ofNat i < 0) ∧ Int32.ofNat i + Int32.ofInt 1 = Int32.ofNat (i + 1) ∧ ¬ ((24 : Int32) ≤ Int32.ofNat i) := by decide
theorem z_i4 : ∀ i, i < 4 → ¬ ((4 : Int32) ≤ Int32.ofNat i) := by decide
theorem z_i10 : ∀ i, i < 10 → ¬ ((10 : Int32) ≤ Int32.ofNat i) := by decide
def f_taxis (g : z_Gr) (ra t : Nat) : Nat → z_Gr
  | 0 => g
  | i + 1 => gP (f_Taxi (gN (f_taxis g ra t i) (t + 3 * i) (.inl 6)) (t + 3 * i) (t + 3 * i + 1)) ra i (t + 3 * i)
theorem f_taxis_1 {g : z_Gr} {ra t q : Nat} (h : q < t) (i : Nat) : (f_taxis g ra t i).1 q = g.1 q := by
  induction i with
  | zero => rfl
  | succ i ih => exact Eq.trans (f_Taxi_1 (g := gN (f_taxis g ra t i) (t + 3 * i) (.inl 6)) (r := t + 3 * i) (t := t + 3 * i + 1) (by omega)) (Eq.trans (gN_1 (by omega)) ih)
theorem f_taxis_2 {g : z_Gr} {ra t q : Nat} (h : q < t) (hne : q ≠ ra) (i : Nat) : (f_taxis g ra t i).2 q = g.2 q := by
  induction i with
  | zero => rfl
  | succ i ih => exact Eq.trans (gP_2 hne) (Eq.trans (f_Taxi_2 (g := gN (f_taxis g ra t i) (t + 3 * i) (.inl 6)) (r := t + 3 * i) (t := t + 3 * i + 1) (by omega) (by omega)) ih)
set_option maxRecDepth 100000 in
theorem q_f_taxis {X : z_X} (hX : z_ok X) (hC : z_okC X) {F : z_F} (B : z_B X F RX0 cX0_init 2 none) (hR : F.2.2.1 = ({ frames := 2, cells := 39, slots := 634, locals := 32 } : Room)) {Q : State → Prop} {g : z_Gr} {r ra t : Nat} {M : z_Mem} (hth : g.1 r = some (.inl 0)) (hra : g.1 ra = some (.inr (3, 4))) (hfl : g.2 r 6 = some ra) (h1 : r < t) (h2 : ra < t) (h3 : r ≠ ra)
    (kk : z_N X F 2 Q (3 + 3 * 4) (38 + 35 * 4) 55 [(1, .int 4), (0, .ref (z_o X + r))] [] (f_taxis g ra t 4) (t + 3 * 4) M) : ∀ j i : Nat, i + j = 4 → z_N X F 2 Q (3 + 3 * i) (38 + 35 * i) 31 [(1, .int (Int32.ofNat i)), (0, .ref (z_o X + r))] [] (f_taxis g ra t i) (t + 3 * i) M := by
  intro j
  induction j with
  | zero =>
    intro i hi
    have hi4 : i = 4 := by omega
    subst hi4
    refine zn_iload_n (pc := 31) B dX0_init_31 0 rfl rfl ?_
    refine zn_iconst (v := 4) (pc := 32) B dX0_init_32 (by decide) ?_
    exact zn_icmp_ge (tgt := 55) (pc := 33) B dX0_init_33 (by decide) (fun _ => kk) (fun h => absurd (by decide) h)
  | succ j ih =>
    intro i hi
    have hiN : i < 4 := by omega
    obtain ⟨e1, e2, e3, -⟩ := z_i24 i (by omega)
    have pth : (f_taxis g ra t i).1 r = some (.inl 0) := (f_taxis_1 h1 i).trans hth
    have pra : (f_taxis g ra t i).1 ra = some (.inr (3, 4)) := (f_taxis_1 h2 i).trans hra
    have pfl : (f_taxis g ra t i).2 r 6 = some ra := (congrFun (f_taxis_2 h1 h3 i) 6).trans hfl
    refine zn_iload_n (pc := 31) B dX0_init_31 0 rfl rfl ?_
    refine zn_iconst (v := 4) (pc := 32) B dX0_init_32 (by decide) ?_
    refine zn_icmp_ge (tgt := 55) (pc := 33) B dX0_init_33 (by decide) (fun h => absurd h (z_i4 i hiN)) (fun _ => ?_)
    refine zn_aload_n (pc := 36) B dX0_init_36 1 rfl rfl ?_
    refine zn_getr (pc := 37) (b := ra) B kx_0 pth 6 (by decide) kf_0_17 rfl pfl dX0_init_37 ?_
    refine zn_iload_n (pc := 40) B dX0_init_40 0 rfl rfl ?_
    refine zn_new (pc := 41) B hR kx_6 kk_0_15 kn_6 ki_6 (by show 3 + 3 * i + 1 ≤ 39; omega) (by show 38 + 35 * i + 17 ≤ 634; omega) kT_6 dX0_init_41 ?_
    refine zn_dup (pc := 44) B dX0_init_44 rfl ?_
    refine zn_run (pc := 45) rfl rfl rfl (zr_IN (host := RX11) B hC hR 0 kI_yX6_init ki_6 rfl (by decide +kernel) (by simp [z_nct]) [] rfl rfl (Nat.le_of_ble_eq_true rfl) dX0_init_45 (c_Taxi hX hC (g := gN (f_taxis g ra t i) (t + 3 * i) (.inl 6)) (t := t + 3 * i + 1) (M := M) (r := t + 3 * i) gN_n (by omega)) ⟨(Nat.le_of_ble_eq_true rfl), (Nat.le_of_ble_eq_true rfl)⟩ ⟨by show 3 + 3 * i + 1 + 2 ≤ 39; omega, by show 38 + 35 * i + 17 + 18 ≤ 634; omega⟩) ?_
    refine zn_aast (pc := 48) (kd := 3) (N := 4) (ci := 6) B kx_6 (by decide) (by decide) rfl ((f_Taxi_1 (g := gN (f_taxis g ra t i) (t + 3 * i) (.inl 6)) (r := t + 3 * i) (t := t + 3 * i + 1) (by omega)).trans (gN_k pra (by omega))) (by omega) ((f_Taxi_1 (g := gN (f_taxis g ra t i) (t + 3 * i) (.inl 6)) (r := t + 3 * i) (t := t + 3 * i + 1) (by omega)).trans gN_n) e1 e2 hiN dX0_init_48 ?_
    refine zn_iinc (pc := 49) B dX0_init_49 0 rfl e3 (by decide) rfl ?_
    refine zn_goto (tgt := 31) (pc := 52) B dX0_init_52 (by decide) ?_
    exact zn_cast (by show 3 + 3 * i + 1 + 2 = 3 + 3 * (i + 1); omega) (by show 38 + 35 * i + 17 + 18 = 38 + 35 * (i + 1); omega) (by show t + 3 * i + 1 + 2 = t + 3 * (i + 1); omega) (ih (i + 1) (by omega))
def f_rides (g : z_Gr) (ra t : Nat) : Nat → z_Gr
  | 0 => g
  | i + 1 => gP (f_Ride (gN (f_rides g ra t i) (t + 1 * i) (.inl 5)) (t + 1 * i) (t + 1 * i + 1)) ra i (t + 1 * i)
theorem f_rides_1 {g : z_Gr} {ra t q : Nat} (h : q < t) (i : Nat) : (f_rides g ra t i).1 q = g.1 q := by
  induction i with
  | zero => rfl
  | succ i ih => exact Eq.trans (f_Ride_1 (g := gN (f_rides g ra t i) (t + 1 * i) (.inl 5)) (r := t + 1 * i) (t := t + 1 * i + 1) (by omega)) (Eq.trans (gN_1 (by omega)) ih)
theorem f_rides_2 {g : z_Gr} {ra t q : Nat} (h : q < t) (hne : q ≠ ra) (i : Nat) : (f_rides g ra t i).2 q = g.2 q := by
  induction i with
  | zero => rfl
  | succ i ih => exact Eq.trans (gP_2 hne) (Eq.trans (f_Ride_2 (g := gN (f_rides g ra t i) (t + 1 * i) (.inl 5)) (r := t + 1 * i) (t := t + 1 * i + 1) (by omega) (by omega)) ih)
set_option maxRecDepth 100000 in
theorem q_f_rides {X : z_X} (hX : z_ok X) (hC : z_okC X) {F : z_F} (B : z_B X F RX0 cX0_init 2 none) (hR : F.2.2.1 = ({ frames := 2, cells := 39, slots := 634, locals := 32 } : Room)) {Q : State → Prop} {g : z_Gr} {r ra t : Nat} {M : z_Mem} (hth : g.1 r = some (.inl 0)) (hra : g.1 ra = some (.inr (4, 24))) (hfl : g.2 r 7 = some ra) (h1 : r < t) (h2 : ra < t) (h3 : r ≠ ra)
    (kk : z_N X F 2 Q (15 + 1 * 24) (178 + 19 * 24) 82 [(1, .int 24), (0, .ref (z_o X + r))] [] (f_rides g ra t 24) (t + 1 * 24) M) : ∀ j i : Nat, i + j = 24 → z_N X F 2 Q (15 + 1 * i) (178 + 19 * i) 57 [(1, .int (Int32.ofNat i)), (0, .ref (z_o X + r))] [] (f_rides g ra t i) (t + 1 * i) M := by
  intro j
  induction j with
  | zero =>
    intro i hi
    have hi4 : i = 24 := by omega
    subst hi4
    refine zn_iload_n (pc := 57) B dX0_init_57 0 rfl rfl ?_
    refine zn_bipush (v := 24) (pc := 58) B dX0_init_58 (by decide) ?_
    exact zn_icmp_ge (tgt := 82) (pc := 60) B dX0_init_60 (by decide) (fun _ => kk) (fun h => absurd (by decide) h)
  | succ j ih =>
    intro i hi
    have hiN : i < 24 := by omega
    obtain ⟨e1, e2, e3, -⟩ := z_i24 i (by omega)
    have pth : (f_rides g ra t i).1 r = some (.inl 0) := (f_rides_1 h1 i).trans hth
    have pra : (f_rides g ra t i).1 ra = some (.inr (4, 24)) := (f_rides_1 h2 i).trans hra
    have pfl : (f_rides g ra t i).2 r 7 = some ra := (congrFun (f_rides_2 h1 h3 i) 7).trans hfl
    refine zn_iload_n (pc := 57) B dX0_init_57 0 rfl rfl ?_
    refine zn_bipush (v := 24) (pc := 58) B dX0_init_58 (by decide) ?_
    refine zn_icmp_ge (tgt := 82) (pc := 60) B dX0_init_60 (by decide) (fun h => absurd h (z_i24 i hiN).2.2.2) (fun _ => ?_)
    refine zn_aload_n (pc := 63) B dX0_init_63 1 rfl rfl ?_
    refine zn_getr (pc := 64) (b := ra) B kx_0 pth 7 (by decide) kf_0_23 rfl pfl dX0_init_64 ?_
    refine zn_iload_n (pc := 67) B dX0_init_67 0 rfl rfl ?_
    refine zn_new (pc := 68) B hR kx_5 kk_0_21 kn_5 ki_5 (by show 15 + 1 * i + 1 ≤ 39; omega) (by show 178 + 19 * i + 19 ≤ 634; omega) kT_5 dX0_init_68 ?_
    refine zn_dup (pc := 71) B dX0_init_71 rfl ?_
    refine zn_run (pc := 72) rfl rfl rfl (zr_IN (host := RX11) B hC hR 0 kI_yX5_init ki_5 rfl (by decide +kernel) (by simp [z_nct]) [] rfl rfl (Nat.le_of_ble_eq_true rfl) dX0_init_72 (c_Ride hX hC (g := gN (f_rides g ra t i) (t + 1 * i) (.inl 5)) (t := t + 1 * i + 1) (M := M) (r := t + 1 * i) gN_n (by omega)) ⟨(Nat.le_of_ble_eq_true rfl), (Nat.le_of_ble_eq_true rfl)⟩ ⟨by show 15 + 1 * i + 1 + 0 ≤ 39; omega, by show 178 + 19 * i + 19 + 0 ≤ 634; omega⟩) ?_
    refine zn_aast (pc := 75) (kd := 4) (N := 24) (ci := 5) B kx_5 (by decide) (by decide) rfl ((f_Ride_1 (g := gN (f_rides g ra t i) (t + 1 * i) (.inl 5)) (r := t + 1 * i) (t := t + 1 * i + 1) (by omega)).trans (gN_k pra (by omega))) (by omega) ((f_Ride_1 (g := gN (f_rides g ra t i) (t + 1 * i) (.inl 5)) (r := t + 1 * i) (t := t + 1 * i + 1) (by omega)).trans gN_n) e1 e2 hiN dX0_init_75 ?_
    refine zn_iinc (pc := 76) B dX0_init_76 0 rfl e3 (by decide) rfl ?_
    refine zn_goto (tgt := 57) (pc := 79) B dX0_init_79 (by decide) ?_
    exact zn_cast (by show 15 + 1 * i + 1 + 0 = 15 + 1 * (i + 1); omega) (by show 178 + 19 * i + 19 + 0 = 178 + 19 * (i + 1); omega) (by show t + 1 * i + 1 + 0 = t + 1 * (i + 1); omega) (ih (i + 1) (by omega))
def f_DeskA (g : z_Gr) (r t : Nat) : z_Gr := (gP (gN (gP (gN (gP (gN g t (.inr (0, 10))) r 5 t) (t + 1) (.inr (3, 4))) r 6 (t + 1)) ((t + 1) + 1) (.inr (4, 24))) r 7 ((t + 1) + 1))
def f_Desk (g : z_Gr) (r t : Nat) : z_Gr := f_rides (f_taxis (f_DeskA g r t) (t + 1) (t + 3) 4) (t + 2) (t + 15) 24
set_option maxRecDepth 100000 in
theorem c_Desk {X : z_X} (hX : z_ok X) (hC : z_okC X) {g : z_Gr} {t : Nat} {M : z_Mem} {r : Nat} (hg : g.1 r = some (.inl 0)) (hr : r < t) : z_CtN X yX0_init cX0_init 2 ({ frames := 2, cells := 39, slots := 634, locals := 32 } : Room) [.ref (z_o X + r)] g t M (f_Desk g r t) (t + 39) M := by
  refine z_enterN hX (by decide) rfl (Nat.le_of_ble_eq_true rfl) (fun F B hR hi => ?_)
  show z_N X F 2 _ 0 0 0 [(0, .ref (z_o X + r))] [] g t M
  refine zn_aload_n (pc := 0) B dX0_init_0 0 rfl rfl ?_
  refine zn_oinit (pc := 1) B hR km_0_3 dX0_init_1 (Nat.le_of_ble_eq_true rfl) (Nat.le_of_ble_eq_true rfl) ko_i ko_c ?_
  refine zn_aload_n (pc := 4) B dX0_init_4 0 rfl rfl ?_
  refine zn_bipush (v := 10) (pc := 5) B dX0_init_5 (by decide) ?_
  refine zn_newI (pc := 7) (N := 10) B hR ka_int (by decide) (by decide) (by decide) (Nat.le_of_ble_eq_true rfl) (Nat.le_of_ble_eq_true rfl) dX0_init_7 ?_
  refine zn_putf (pc := 9) B kx_0 (gN_k hg (by omega)) (by omega) 5 (by decide) kf_0_9 rfl rfl hi rfl (fun _ => rfl) (fun _ => rfl) dX0_init_9 ?_
  refine zn_aload_n (pc := 12) B dX0_init_12 0 rfl rfl ?_
  refine zn_iconst (v := 4) (pc := 13) B dX0_init_13 (by decide) ?_
  refine zn_anew (pc := 14) (N := 4) B hR 3 (by decide) (by decide) rfl kk_0_15 hC.2.1 (by decide) (by decide) (by decide) (Nat.le_of_ble_eq_true rfl) (Nat.le_of_ble_eq_true rfl) dX0_init_14 ?_
  refine zn_putf (pc := 17) B kx_0 (gN_k (gP_k (gN_k hg (by omega))) (by omega)) (by omega) 6 (by decide) kf_0_17 rfl rfl hi rfl (fun _ => rfl) (fun _ => rfl) dX0_init_17 ?_
  refine zn_aload_n (pc := 20) B dX0_init_20 0 rfl rfl ?_
  refine zn_bipush (v := 24) (pc := 21) B dX0_init_21 (by decide) ?_
  refine zn_anew (pc := 23) (N := 24) B hR 4 (by decide) (by decide) rfl kk_0_21 hC.2.2.1 (by decide) (by decide) (by decide) (Nat.le_of_ble_eq_true rfl) (Nat.le_of_ble_eq_true rfl) dX0_init_23 ?_
  refine zn_putf (pc := 26) B kx_0 (gN_k (gP_k (gN_k (gP_k (gN_k hg (by omega))) (by omega))) (by omega)) (by omega) 7 (by decide) kf_0_23 rfl rfl hi rfl (fun _ => rfl) (fun _ => rfl) dX0_init_26 ?_
  have pth : (f_DeskA g r t).1 r = some (.inl 0) := (gP_k (gN_k (gP_k (gN_k (gP_k (gN_k hg (by omega))) (by omega))) (by omega)))
  have p1 : (f_DeskA g r t).1 (t + 1) = some (.inr (3, 4)) := (gP_k (gN_k (gP_k gN_n) (by omega)))
  have p2 : (f_DeskA g r t).1 (t + 2) = some (.inr (4, 24)) := (gP_k gN_n)
  have q1 : (f_DeskA g r t).2 r 6 = some (t + 1) := gP_o gP_g (by omega)
  have q2 : (f_DeskA g r t).2 r 7 = some (t + 2) := gP_g
  refine zn_iconst (v := 0) (pc := 29) B dX0_init_29 (by decide) ?_
  refine zn_istore_n (pc := 30) B dX0_init_30 rfl (by decide) rfl ?_
  refine q_f_taxis hX hC B hR (g := f_DeskA g r t) (r := r) (ra := t + 1) (t := t + 3) pth p1 q1 (by omega) (by omega) (by omega) ?_ 4 0 rfl
  refine zn_iconst (v := 0) (pc := 55) B dX0_init_55 (by decide) ?_
  refine zn_istore_n (pc := 56) B dX0_init_56 rfl (by decide) rfl ?_
  refine q_f_rides hX hC B hR (g := f_taxis (f_DeskA g r t) (t + 1) (t + 3) 4) (r := r) (ra := t + 2) (t := t + 15) ((f_taxis_1 (by omega) 4).trans pth) ((f_taxis_1 (by omega) 4).trans p2) ((congrFun (f_taxis_2 (by omega) (by omega) 4) _).trans q2) (by omega) (by omega) (by omega) ?_ 24 0 rfl
  exact zn_vret (pc := 82) B dX0_init_82 rfl (Nat.le_of_ble_eq_true rfl) (Nat.le_of_ble_eq_true rfl) rfl rfl rfl
theorem f_DeskA_1 {g : z_Gr} {r t q : Nat} (h : q < t) : (f_DeskA g r t).1 q = g.1 q := Eq.trans (gN_1 (by omega)) (Eq.trans (gN_1 (by omega)) (gN_1 h))
theorem f_DeskA_2 {g : z_Gr} {r t q : Nat} (h : q ≠ r) : (f_DeskA g r t).2 q = g.2 q := Eq.trans (gP_2 h) (Eq.trans (gP_2 h) (gP_2 h))
theorem f_Desk_1 {g : z_Gr} {r t q : Nat} (h : q < t) : (f_Desk g r t).1 q = g.1 q := Eq.trans (f_rides_1 (by omega) 24) (Eq.trans (f_taxis_1 (by omega) 4) (f_DeskA_1 h))
theorem f_Desk_2 {g : z_Gr} {r t q : Nat} (h : q < t) (hne : q ≠ r) : (f_Desk g r t).2 q = g.2 q := Eq.trans (f_rides_2 (by omega) (by omega) 24) (Eq.trans (f_taxis_2 (by omega) (by omega) 4) (f_DeskA_2 hne))
