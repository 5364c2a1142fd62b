/-! ===== from the law's entry on: whole_start out of a claim about the terms alone ===== -/
def F_Law_law (L : Nat) (S : Nat → Int32) (o a : Nat) (M : z_Mem) : Option (Int32 × z_Mem) := zb2 (F_Law_tells L S o a M) fun r M1 => if r = 0 then some (0, M1) else zb2 (F_Law_holds L S o a M1) fun r2 M2 => if r2 = 0 then some (0, M2) else some (1, M2)
def p_0 : z_Mem := (fun _ _ => 0, fun _ _ => 0)
def p_cut (p t : Nat) (M : z_Mem) : z_Mem := (fun a k => if a < p + t then M.1 a k else 0, fun a k => if a < p + t then M.2 a k else 0)
def p_S0 (p : Nat) (M : z_Mem) : z_Mem := (z_wI (z_wI (z_wI (z_wI (z_wI (z_wI (z_wI M (p + 2) 1 0) (p + 2) 2 (-1)) (p + 2) 4 0) (p + 47) 0 0) (p + 47) 1 0) (p + 2) 9 0) (p + 501) 1 (-1))
/-- what is owed of the terms: on every script the law's term ends with 1 -/
def p_whole : Prop := ∀ (p L : Nat), L ≤ 260 → ∀ xs : Nat → Int32, ∃ MA MB ME : z_Mem, F_Town_clear (p + 5) 2 (p_S0 p p_0) = some MA ∧ F_Desk_clear (p + 7) (p_cut p 550 MA) = some MB ∧ F_Law_law L xs (p + 2) p (p_cut p 550 MB) = some (1, ME)
theorem W.mono {p : Program} {l : Launch} {e : Env} {R : Room} {s : State} {m : MethodId} {args : Array Value} {below : List Frame} {meth : Method} {c : Code} {H : Heap} {locs : List Loc} {k n : Nat} {Q Q' : State → Prop} {g : JFrame} (h : W p l e R s m args below meth c H locs k n Q g) (hq : ∀ t, Q t → Q' t) : W p l e R s m args below meth c H locs k n Q' g := fun T hT X => by
  obtain ⟨t, a, b⟩ := h T hT X
  exact ⟨t, a, hq t b⟩
section ZRS
variable {X : z_X} {F : z_F} {own : String} {cc : ByteArray} {nL : Nat} {ret : Option FieldType} {Q : State → Prop} {k n pc : Nat} {loc loc' : List (Nat × Value)} {st : List Value} {g : z_Gr} {t : Nat} {M : z_Mem}
theorem zn_astore_n (B : z_B X F own cc nL ret) {q : Fin 4} {i : Nat} {x : Nat} (d : decode cc pc = .ok (.astore_n q, 1)) (hi : (q : Nat) = i) (hn : i < nL) (hl : (i, Value.ref x) :: loc.filter (fun q => !(q.1 == i) && !(q.1 + 1 == i && q.2.category == 2)) = loc') (kk : z_N X F nL Q k n (pc + 1) loc' st g t M) : z_N X F nL Q k n pc loc (.ref x :: st) g t M :=
  fun hf hk H locs ls hH hs hq hL => lv_astore_n B.1 B.2.1 d hi hL hn hl (fun ls' hL' => kk hf hk H locs ls' hH hs hq hL')
theorem zn_istore (B : z_B X F own cc nL ret) {i : Nat} {x : Int32} (d : decode cc pc = .ok (.istore i, 2)) (hn : i < nL) (hl : (i, Value.int x) :: loc.filter (fun q => !(q.1 == i) && !(q.1 + 1 == i && q.2.category == 2)) = loc') (kk : z_N X F nL Q k n (pc + 2) loc' st g t M) : z_N X F nL Q k n pc loc (.int x :: st) g t M :=
  fun hf hk H locs ls hH hs hq hL => lv_istore B.1 B.2.1 d hL hn hl (fun ls' hL' => kk hf hk H locs ls' hH hs hq hL')
theorem zn_of_K {mc ms : Nat} {β : Type} {cv : β → z_O × z_Mem} {b0 : β} {K : Option β} (h0 : K = some b0) (kk : z_K X F nL mc ms (z_sh X g) cv b0 k n pc loc st M K) : z_N X F nL (vx_MQ F.2.2.2.2.2.2.1 (z_Qc X (fun o G' M' => G' = z_sh X g ∧ (o, M') = cv b0)) (z_XC X (fun o G' M' => G' = z_sh X g ∧ (o, M') = cv b0)) F.2.2.2.2.2.1 F.2.2.2.1 mc ms (z_A X)) k n pc loc st g t M :=
  fun hf hk H locs ls hH hs hq hL => kk h0 H locs ls hH (by omega) hq hL
end ZRS
set_option maxHeartbeats 4000000 in
set_option maxRecDepth 100000 in
theorem m_law_rest {X : z_X} (hX : z_ok X) {G : z_Gr} {o a : Nat} (hG : g_Sys G o) (ha : g_Law G a) {b9 L9 : Nat} {S9 : Nat → Int32} (hx9 : va_X b9 L9 S9 X.2.1 X.2.1.heap) (hb9 : b9 < z_o X) {F : z_F} (B : z_B X F RL cL_law 3 (some .boolean)) (hR : F.2.2.1 = ({ frames := 13, cells := 600086, slots := 7301442, locals := 498 } : Room)) {k n : Nat} (hk : k + 41 ≤ 600086) (hn : n + 246 ≤ 7301442) (b : Int32 × z_Mem) (M : z_Mem) : z_K X F 3 600086 7301442 G z_cim b k n 16 [(2, .ref o), (1, .ref a), (0, .ref b9)] [] M (F_Law_law L9 S9 o a M) := by
  unfold F_Law_law
  refine zk_aload_n (pc := 16) B dL_law_16 1 rfl rfl ?_
  refine zk_aload_n (pc := 17) B dL_law_17 0 rfl rfl ?_
  refine zk_aload_n (pc := 18) B dL_law_18 2 rfl rfl ?_
  refine zk_cim (pc := 19) (k' := k + 41) (n' := n + 246) B rfl rfl hk hn (fun b1 hb1 => zr_V B hR kV_yL_tells km_L_115 kx_12 (gLaw_s ha) [.ref o, .ref b9] rfl rfl (Nat.le_of_ble_eq_true rfl) dL_law_19 (m_Law_tells hX hx9 hb9 hG ha M b1 hb1) ⟨(Nat.le_of_ble_eq_true rfl), (Nat.le_of_ble_eq_true rfl)⟩ ⟨hk, hn⟩) (fun r M1 => ?_)
  refine zk_if_eq (tgt := 38) (pc := 22) B dL_law_22 (by decide) (fun _ => ?_) (fun _ => ?_)
  · refine zk_iconst (v := 0) (pc := 38) B dL_law_38 (by decide) ?_
    exact zk_iret (pc := 39) B dL_law_39 rfl rfl hk hn rfl
  · refine zk_aload_n (pc := 25) B dL_law_25 1 rfl rfl ?_
    refine zk_aload_n (pc := 26) B dL_law_26 0 rfl rfl ?_
    refine zk_aload_n (pc := 27) B dL_law_27 2 rfl rfl ?_
    refine zk_cim (pc := 28) (k' := k + 41) (n' := n + 246) B rfl rfl hk hn (fun b1 hb1 => zr_V B hR kV_yL_holds km_L_119 kx_12 (gLaw_s ha) [.ref o, .ref b9] rfl rfl (Nat.le_of_ble_eq_true rfl) dL_law_28 (m_Law_holds hX hx9 hb9 hG ha M1 b1 hb1) ⟨(Nat.le_of_ble_eq_true rfl), (Nat.le_of_ble_eq_true rfl)⟩ ⟨hk, hn⟩) (fun r2 M2 => ?_)
    refine zk_if_eq (tgt := 38) (pc := 31) B dL_law_31 (by decide) (fun _ => ?_) (fun _ => ?_)
    · refine zk_iconst (v := 0) (pc := 38) B dL_law_38 (by decide) ?_
      exact zk_iret (pc := 39) B dL_law_39 rfl rfl hk hn rfl
    · refine zk_iconst (v := 1) (pc := 34) B dL_law_34 (by decide) ?_
      refine zk_goto (tgt := 39) (pc := 35) B dL_law_35 (by decide) ?_
      exact zk_iret (pc := 39) B dL_law_39 rfl rfl hk hn rfl
set_option maxHeartbeats 4000000 in
set_option maxRecDepth 100000 in
theorem whole_start (hp : p_whole) {p : Program} {e : Env} {s : State} {m : MethodId} {below : List Frame} {meth : Method} {c : Code} (l : Launch) (hflags : l.flags = flags0) {b L : Nat} {xs : Nat → Int32} (hL : L ≤ 260) (C0 : lw_At p s m meth c b L xs) : W p l e room_1 s m #[Value.ref b] below meth c s.heap [] 0 0 (lw_Z below #[Value.ref b] s) (entryFrame m ([Value.ref b] : List Value).toArray 3) := by
  obtain ⟨hx, hb, hr, hml, hown, hts, hX, hbl, hlocks, hgv⟩ := id C0
  obtain ⟨X, e1, e2, hok, hC⟩ := z_start (l := l) hts (flat_of_before _ hgv)
  subst e1
  subst e2
  obtain ⟨MA, MB, ME, hA, hB, hE⟩ := hp (z_o X) L hL xs
  have hsys : g_Sys (z_sh X gS_12) (z_o X + 2) := sh_Sys gS_ok
  have hlaw : g_Law (z_sh X gS_12) (z_o X) := sh_Law gS_law
  refine W.mono (Q := vx_MQ below (z_Qc X (fun o G' M' => G' = z_sh X gS_12 ∧ (o, M') = z_cim ((1 : Int32), ME))) (z_XC X (fun o G' M' => G' = z_sh X gS_12 ∧ (o, M') = z_cim ((1 : Int32), ME))) #[Value.ref b] X.2.1 600086 7301442 (z_A X)) ?_ ?_
  · let F : z_F := (p, e, room_1, X.2.1, m, #[Value.ref b], below, meth, c)
    have B : z_B X F RL cL_law 3 (some .boolean) := ⟨hx, hb, hml, hr, hown, fun w hw => hts w (List.mem_filter.mp hw).1, hlocks, Or.inl rfl, State.WarmedH.refl _, ⟨Nat.le_refl _, fun q _ => rfl⟩, hok⟩
    have hR : F.2.2.1 = ({ frames := 13, cells := 600086, slots := 7301442, locals := 498 } : Room) := rfl
    rw [lg_entry_eq]
    have hl := lv_entry ([.ref b]) (n := 3) (Nat.le_of_ble_eq_true rfl)
    have hfr : z_fr X (fun _ => none, fun _ _ => none) 0 p_0 := fun a _ => ⟨rfl, rfl, rfl, rfl⟩
    have hH : z_H X (z_sh X (fun _ => none, fun _ _ => none)) p_0 X.2.1.heap := ⟨⟨Nat.le_refl _, fun q _ => rfl⟩, fun a sh ha => by
      have h9 : (z_sh X ((fun _ => none, fun _ _ => none) : z_Gr)).1 a = none := by
        show (if a < z_o X then none else none) = none
        split <;> rfl
      rw [h9] at ha
      cases ha⟩
    have key : z_N X F 3 (vx_MQ below (z_Qc X (fun o G' M' => G' = z_sh X gS_12 ∧ (o, M') = z_cim ((1 : Int32), ME))) (z_XC X (fun o G' M' => G' = z_sh X gS_12 ∧ (o, M') = z_cim ((1 : Int32), ME))) #[Value.ref b] X.2.1 600086 7301442 (z_A X)) 0 0 0 [(0, .ref b)] [] (fun _ => none, fun _ _ => none) 0 p_0 := by
      refine zn_new (pc := 0) B hR kx_12 kk_L_8 kn_12 ki_12 (Nat.le_of_ble_eq_true rfl) (Nat.le_of_ble_eq_true rfl) kT_12 dL_law_0 ?_
      refine zn_at (g9 := gA_0) (t9 := 1) rfl rfl ?_
      refine zn_dup (pc := 3) B dL_law_3 rfl ?_
      refine zn_run (pc := 4) (k' := 2) (n' := 807) rfl rfl rfl (zr_I B hR 0 kI_yL_init ki_12 rfl (by decide +kernel) km_L_113 [] rfl rfl (Nat.le_of_ble_eq_true rfl) dL_law_4 (c_Law hok hC (g := gA_0) (t := 1) (M := p_0) (r := 0) gN_n (by decide)) ⟨(Nat.le_of_ble_eq_true rfl), (Nat.le_of_ble_eq_true rfl)⟩ ⟨(Nat.le_of_ble_eq_true rfl), (Nat.le_of_ble_eq_true rfl)⟩) ?_
      refine zn_astore_n (pc := 7) B dL_law_7 rfl (by decide) rfl ?_
      refine zn_new (pc := 8) B hR kx_11 kk_L_29 kn_11 ki_11 (Nat.le_of_ble_eq_true rfl) (Nat.le_of_ble_eq_true rfl) kT_11 dL_law_8 ?_
      refine zn_at (g9 := gS_0) (t9 := 3) rfl rfl ?_
      refine zn_dup (pc := 11) B dL_law_11 rfl ?_
      refine zn_run (pc := 12) (k' := 550) (n' := 13556) rfl rfl rfl (zr_I B hR 0 kI_yX11_init ki_11 rfl (by decide +kernel) km_L_114 [] rfl rfl (Nat.le_of_ble_eq_true rfl) dL_law_12 (c_Sys hok hC (M := p_0) hA hB) ⟨(Nat.le_of_ble_eq_true rfl), (Nat.le_of_ble_eq_true rfl)⟩ ⟨(Nat.le_of_ble_eq_true rfl), (Nat.le_of_ble_eq_true rfl)⟩) ?_
      refine zn_astore_n (pc := 15) B dL_law_15 rfl (by decide) rfl ?_
      exact zn_of_K hE (m_law_rest hok hsys hlaw hX hbl B hR (by decide) (by decide) _ (p_cut (z_o X) 550 MB))
    exact key hfr rfl X.2.1.heap [] _ hH rfl (fun q h => by cases h) hl
  · intro t ht
    obtain ⟨o, h1, h2, h3⟩ := ht
    rcases h3 with ⟨⟨hsz, v, G, M, ho, ⟨hG, hcv⟩, hH⟩, Ls, ⟨hv, hW, hs⟩, hf⟩ | ⟨q, ho, E, ce, Ls, ⟨hsz, k, G, M, hE1, ⟨hG, hcv⟩, hH⟩, -⟩
    · have hv1 : v = some (.int 1) := by
        have := congrArg Prod.fst hcv
        exact Except.ok.inj this
      subst hv1
      refine ⟨o, h1, h2, ho, hv, hW, ?_⟩
      exact hs.weaken (fun y hy hlt => absurd hlt (Nat.not_lt.mpr (hf y hy))) (Nat.le_refl _) (Nat.le_refl _)
    · cases hcv
