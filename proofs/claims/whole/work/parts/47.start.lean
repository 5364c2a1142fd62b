/-! ===== from the law's entry to its loop, and the end: whole_start out of a claim about the terms alone ===== -/
def p_0 : z_Mem := (fun _ _ => 0, fun _ _ => 0)
def p_cut (o t : Nat) (M : z_Mem) : z_Mem := (fun a k => if a < o + t then M.1 a k else 0, fun a k => if a < o + t then M.2 a k else 0)
def p_S0 (o : Nat) (M : z_Mem) : z_Mem := (z_wI (z_wI (z_wI (z_wI (z_wI (z_wI (z_wI M (o + 0) 1 0) (o + 0) 2 (-1)) (o + 0) 4 0) (o + 45) 0 0) (o + 45) 1 0) (o + 0) 9 0) (o + 499) 1 (-1))
def p_M0 (o : Nat) (M : z_Mem) : z_Mem := (z_wI M (o + 548) 31 (-1))
/-- what is owed of the terms: on every script the law's term ends with 1 -/
def p_whole : Prop := ∀ (o L : Nat), L ≤ 3072 → ∀ xs : Nat → Int32, ∃ MA MB MC MD ME : z_Mem, F_Town_clear (o + 3) 2 (p_S0 o p_0) = some MA ∧ F_Desk_clear (o + 5) (p_cut o 548 MA) = some MB ∧ F_Model_begins (o + 548) 2 (p_M0 o (p_cut o 548 MB)) = some MC ∧ F_Model_becomes (o + 548) (p_cut o 573 MC) = some MD ∧ F_law_L o L xs 513 0 (p_cut o 573 MD) = some (1, ME)
theorem W.mono {p : Program} {l : Launch} {e : Env} {R : Room} {s : State} {m : MethodId} {args : Array Value} {below : List Frame} {meth : Method} {c : Code} {H : Heap} {locs : List Loc} {k n : Nat} {Q Q' : State → Prop} {g : JFrame} (h : W p l e R s m args below meth c H locs k n Q g) (hq : ∀ t, Q t → Q' t) : W p l e R s m args below meth c H locs k n Q' g := fun T hT X => by
  obtain ⟨t, a, b⟩ := h T hT X
  exact ⟨t, a, hq t b⟩
section ZRS
variable {X : z_X} {F : z_F} {own : String} {cc : ByteArray} {nL : Nat} {ret : Option FieldType} {Q : State → Prop} {k n pc : Nat} {loc loc' : List (Nat × Value)} {st : List Value} {g : z_Gr} {t : Nat} {M : z_Mem}
theorem zn_astore_n (B : z_B X F own cc nL ret) {q : Fin 4} {i : Nat} {x : Nat} (d : decode cc pc = .ok (.astore_n q, 1)) (hi : (q : Nat) = i) (hn : i < nL) (hl : (i, Value.ref x) :: loc.filter (fun q => !(q.1 == i) && !(q.1 + 1 == i && q.2.category == 2)) = loc') (kk : z_N X F nL Q k n (pc + 1) loc' st g t M) : z_N X F nL Q k n pc loc (.ref x :: st) g t M :=
  fun hf hk H locs ls hH hs hq hL => lv_astore_n B.1 B.2.1 d hi hL hn hl (fun ls' hL' => kk hf hk H locs ls' hH hs hq hL')
theorem zn_istore (B : z_B X F own cc nL ret) {i : Nat} {x : Int32} (d : decode cc pc = .ok (.istore i, 2)) (hn : i < nL) (hl : (i, Value.int x) :: loc.filter (fun q => !(q.1 == i) && !(q.1 + 1 == i && q.2.category == 2)) = loc') (kk : z_N X F nL Q k n (pc + 2) loc' st g t M) : z_N X F nL Q k n pc loc (.int x :: st) g t M :=
  fun hf hk H locs ls hH hs hq hL => lv_istore B.1 B.2.1 d hL hn hl (fun ls' hL' => kk hf hk H locs ls' hH hs hq hL')
theorem zn_of_K {mc ms : Nat} {β : Type} {cv : β → z_O × z_Mem} {b0 : β} {K : Option β} (h0 : K = some b0) (kk : z_K X F nL mc ms (z_sh X g) cv b0 k n pc loc st M K) : z_N X F nL (vx_MQ F.2.2.2.2.2.2.1 (z_Qc X (fun o G' M' => G' = z_sh X g ∧ (o, M') = cv b0)) (z_XC X (fun o G' M' => G' = z_sh X g ∧ (o, M') = cv b0)) F.2.2.2.2.2.1 F.2.2.2.1 mc ms (z_A X)) k n pc loc st g t M :=
  fun hf hk H locs ls hH hs hq hL => kk h0 H locs ls hH (by omega) hq hL
end ZRS
set_option maxHeartbeats 4000000 in
set_option maxRecDepth 100000 in
theorem whole_start (hp : p_whole) {p : Program} {e : Env} {s : State} {m : MethodId} {below : List Frame} {meth : Method} {c : Code} (l : Launch) (hflags : l.flags = flags0) {b L : Nat} {xs : Nat → Int32} (hL : L ≤ 3072) (C0 : lw_At p s m meth c b L xs) : W p l e room_1 s m #[Value.ref b] below meth c s.heap [] 0 0 (lw_Z below #[Value.ref b] s) (entryFrame m ([Value.ref b] : List Value).toArray 9) := by
  obtain ⟨hx, hb, hr, hml, hown, hts, hX, hbl, hlocks, hgv⟩ := id C0
  obtain ⟨X, e1, e2, hok, hN, hC⟩ := z_start hflags hts (flat_of_before _ hgv)
  subst e1
  subst e2
  obtain ⟨MA, MB, MC, MD, ME, hA, hB, hC2, hD, hE⟩ := hp (z_o X) L hL xs
  have hsys : g_Sys (z_sh X gL) (z_o X) := sh_Sys gL_sys
  have hmod : g_Model (z_sh X gL) (z_o X + 548) := sh_Model gL_mod
  have hout : (z_sh X gL).1 (z_o X + 573) = some (.inr (2, 1)) := (z_sh1 573).trans gL_out
  refine W.mono (Q := vx_MQ below (z_Qc X (fun o G' M' => G' = z_sh X gL ∧ (o, M') = z_cim ((1 : Int32), ME))) (z_XC X (fun o G' M' => G' = z_sh X gL ∧ (o, M') = z_cim ((1 : Int32), ME))) #[Value.ref b] X.2.1 601024 7293034 (z_A X)) ?_ ?_
  · let F : z_F := (p, e, room_1, X.2.1, m, #[Value.ref b], below, meth, c)
    have B : z_B X F RL cL_law 9 (some .boolean) := ⟨hx, hb, hml, hr, hown, fun w hw => hts w (List.mem_filter.mp hw).1, hlocks, Or.inl rfl, State.WarmedH.refl _, ⟨Nat.le_refl _, fun q _ => rfl⟩, hok⟩
    have hR : F.2.2.1 = ({ frames := 2048, cells := 601024, slots := 7293034, locals := 84000 } : Room) := rfl
    rw [lg_entry_eq]
    have hl := lv_entry ([.ref b]) (n := 9) (Nat.le_of_ble_eq_true rfl)
    have hfr : z_fr X (fun _ => none, fun _ _ => none) 0 p_0 := fun a _ => ⟨rfl, rfl, rfl, rfl⟩
    have hH : z_H X (z_sh X (fun _ => none, fun _ _ => none)) p_0 X.2.1.heap := ⟨⟨Nat.le_refl _, fun q _ => rfl⟩, fun a sh ha => by
      have h9 : (z_sh X ((fun _ => none, fun _ _ => none) : z_Gr)).1 a = none := by
        show (if a < z_o X then none else none) = none
        split <;> rfl
      rw [h9] at ha
      cases ha⟩
    have key : z_N X F 9 (vx_MQ below (z_Qc X (fun o G' M' => G' = z_sh X gL ∧ (o, M') = z_cim ((1 : Int32), ME))) (z_XC X (fun o G' M' => G' = z_sh X gL ∧ (o, M') = z_cim ((1 : Int32), ME))) #[Value.ref b] X.2.1 601024 7293034 (z_A X)) 0 0 0 [(0, .ref b)] [] (fun _ => none, fun _ _ => none) 0 p_0 := by
      refine zn_new (pc := 0) B hR kx_11 kk_L_8 kn_11 ki_11 (Nat.le_of_ble_eq_true rfl) (Nat.le_of_ble_eq_true rfl) kT_11 dL_law_0 ?_
      refine zn_at (g9 := gS_0) (t9 := 1) rfl rfl ?_
      refine zn_dup (pc := 3) B dL_law_3 rfl ?_
      refine zn_run (pc := 4) (k' := 548) (n' := 12749) rfl rfl rfl (zr_I B hR 0 kI_yX11_init ki_11 rfl (by decide +kernel) km_L_99 [] rfl rfl (Nat.le_of_ble_eq_true rfl) dL_law_4 (c_Sys hok hC (M := p_0) hA hB) ⟨(Nat.le_of_ble_eq_true rfl), (Nat.le_of_ble_eq_true rfl)⟩ ⟨(Nat.le_of_ble_eq_true rfl), (Nat.le_of_ble_eq_true rfl)⟩) ?_
      refine zn_astore_n (pc := 7) B dL_law_7 rfl (by decide) rfl ?_
      refine zn_new (pc := 8) B hR kx_12 kk_L_100 kn_12 ki_12 (Nat.le_of_ble_eq_true rfl) (Nat.le_of_ble_eq_true rfl) kT_12 dL_law_8 ?_
      refine zn_at (g9 := gM_0) (t9 := 549) rfl rfl ?_
      refine zn_dup (pc := 11) B dL_law_11 rfl ?_
      refine zn_run (pc := 12) (k' := 573) (n' := 22172) rfl rfl rfl (zr_I B hR 0 kI_yX12_init ki_12 rfl (by decide +kernel) km_L_102 [] rfl rfl (Nat.le_of_ble_eq_true rfl) dL_law_12 (c_Model hok hC (M := z_cut X 548 MB) hC2 hD) ⟨(Nat.le_of_ble_eq_true rfl), (Nat.le_of_ble_eq_true rfl)⟩ ⟨(Nat.le_of_ble_eq_true rfl), (Nat.le_of_ble_eq_true rfl)⟩) ?_
      refine zn_astore_n (pc := 15) B dL_law_15 rfl (by decide) rfl ?_
      refine zn_iconst (v := 1) (pc := 16) B dL_law_16 (by decide) ?_
      refine zn_newL (pc := 17) (N := 1) B hR ka_long (by decide) (by decide) (by decide) (Nat.le_of_ble_eq_true rfl) (Nat.le_of_ble_eq_true rfl) dL_law_17 ?_
      refine zn_at (g9 := gL) (t9 := 574) rfl rfl ?_
      refine zn_astore_n (pc := 19) B dL_law_19 rfl (by decide) rfl ?_
      refine zn_iconst (v := 0) (pc := 20) B dL_law_20 (by decide) ?_
      refine zn_istore (pc := 21) B dL_law_21 (by decide) rfl ?_
      exact zn_of_K hE (t_law hok hN hsys hmod hout B hR hX hbl 513 574 22173 (by decide) (by decide) 0 (p_cut (z_o X) 573 MD))
    exact key hfr rfl X.2.1.heap [] _ hH rfl (fun q h => by cases h) hl
  · intro t ht
    obtain ⟨o, h1, h2, h3⟩ := ht
    rcases h3 with ⟨⟨hsz, v, G, M, ho, ⟨hG, hcv⟩, hH⟩, Ls, ⟨hv, hW, hs⟩, hf⟩ | ⟨q, ho, E, ce, Ls, ⟨hsz, k, G, M, hE1, ⟨hG, hcv⟩, hH⟩, -⟩
    · have hv1 : v = some (.int 1) := by
        have := congrArg Prod.fst hcv
        exact Except.ok.inj this
      subst hv1
      refine ⟨o, h1, h2, ho, ?_⟩
      exact lw_closed (d0 := X.2.1.drawn) (Drawn.sameBut.refl X.2.1.drawn lw_cs) hv hW (hs.weaken (fun y hy hlt => absurd hlt (Nat.not_lt.mpr (hf y hy))) (Nat.le_refl _) (Nat.le_refl _))
    · cases hcv
