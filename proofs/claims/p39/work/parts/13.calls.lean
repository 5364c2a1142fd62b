/-! ===== the lite rows: calls, throws, entries ===== -/
theorem z_gT {w : Cond} (h : w ∈ z_tbl) : w ∈ z_tbl ∧ ((w.onTables && w.keeps) = true ∨ ∃ ty, w = .arrayClass ty) := ⟨h, good_of_word (z_good h)⟩
theorem z_gws {y : MethodName} {cc : ByteArray} {nL : Nat} {ret : Option FieldType} (h : Cond.code y cc nL ret ∈ z_tbl) : GoodIn z_tbl (z_ws y cc nL ret) := by
  intro w hw
  rcases List.mem_cons.mp hw with rfl | hw
  · exact z_gT h
  · exact z_gT hw
theorem z_gV {own C : String} {ix : Nat} {y : MethodName} {cc : ByteArray} {nL : Nat} {ret : Option FieldType} {np : Nat} (hm : z_mV C y cc nL ret np) (h : Cond.methodLink own ix y ∈ z_tbl) : GoodIn z_tbl (wsV own ix C y (z_ws y cc nL ret)) := by
  obtain ⟨h1, h2, h3, h4, -⟩ := hm
  intro w hw
  unfold wsV at hw
  rcases List.mem_append.mp hw with hw | hw
  · simp only [List.mem_cons, List.not_mem_nil, or_false] at hw
    rcases hw with rfl | rfl | rfl | rfl
    · exact z_gT h
    · exact z_gT h1
    · exact z_gT h2
    · exact z_gT h3
  · exact z_gws h4 w hw
theorem z_gS {own : String} {ix : Nat} {y : MethodName} {cc : ByteArray} {nL : Nat} {ret : Option FieldType} {np : Nat} (hm : z_mS y cc nL ret np) (h : Cond.methodLink own ix y ∈ z_tbl) : GoodIn z_tbl (va_wsS own ix y (z_ws y cc nL ret)) := by
  obtain ⟨h1, h2, h4, -⟩ := hm
  intro w hw
  unfold va_wsS at hw
  rcases List.mem_append.mp hw with hw | hw
  · simp only [List.mem_cons, List.not_mem_nil, or_false] at hw
    rcases hw with rfl | rfl | rfl
    · exact z_gT h
    · exact z_gT h1
    · exact z_gT h2
  · exact z_gws h4 w hw
theorem z_blind {X : z_X} {G : z_Gr} {M : z_Mem} {av : List Value} : FrameBlind (va_Pc av (z_U X G M)) := fun _ _ _ _ h => h
theorem z_pre {X : z_X} {F : z_F} {own : String} {cc : ByteArray} {nL : Nat} {ret : Option FieldType} (B : z_B X F own cc nL ret) {G : z_Gr} {M : z_Mem} {H : Heap} (hH : z_H X G M H) {av : List Value} : ∀ U : State, U.heap = H → F.2.2.2.1.WarmedH U.vm → va_Pc av (z_U X G M) av.toArray U :=
  fun U hU hW => ⟨rfl, State.WarmedH.trans B.2.2.2.2.2.2.2.2.1 hW, by rw [hU]; exact hH⟩
abbrev z_Run (X : z_X) (F : z_F) (nL : Nat) (k n pc : Nat) (loc : List (Nat × Value)) (st0 rest : List Value) (G : z_Gr) (M : z_Mem) (mc ms : Nat) (av : Array Value) (Q : z_O → z_Gr → z_Mem → Prop) : Prop :=
  ∀ (H : Heap) (locs : List Loc) (ls : Array Slot), z_H X G M H → F.2.2.2.1.heap.size ≤ H.size → (∀ q ∈ locs, z_o X ≤ q.base) → lv_has ls nL loc → vx_Run F.1 X.1 F.2.1 F.2.2.1 F.2.2.2.1 F.2.2.2.2.1 F.2.2.2.2.2.1 F.2.2.2.2.2.2.1 F.2.2.2.2.2.2.2.1 F.2.2.2.2.2.2.2.2 H locs k n mc ms (F0 F.2.2.2.2.1 pc ls st0) rest (z_Qc X Q av) (z_XC X Q) (z_A X)
section ZR3
variable {X : z_X} {F : z_F} {own : String} {cc : ByteArray} {nL mc ms : Nat} {ret : Option FieldType} {G : z_Gr} {β : Type} {cv : β → z_O × z_Mem} {b0 : β} {k n pc : Nat} {loc loc' : List (Nat × Value)} {st : List Value} {M : z_Mem} {K : Option β} {rm0 : Room}
theorem zr_V (B : z_B X F own cc nL ret) (hR : F.2.2.1 = rm0) {y : MethodName} {cc' : ByteArray} {nL' np ix ci N a : Nat} {ret' : Option FieldType} {C : String} {T : u_T} (hm : z_mV C y cc' nL' ret' np) (hlk : Cond.methodLink own ix y ∈ z_tbl) (hcl : z_cl ci C T N) (hg : G.1 a = some (.inl ci)) (As : List Value) {rest st0 : List Value} (hlen : As.length = np) (hst : st0 = As.reverse ++ .ref a :: rest) (hcat : (rest.map fun v => v.category).sum ≤ 8) (d : decode cc pc = .ok (.invokevirtual ix, 3)) {rm' : Room} {Q' : z_O → z_Gr → z_Mem → Prop} (hct : z_Ct X y cc' nL' ret' rm' (.ref a :: As) G M Q') (hr1 : rm'.frames + 1 ≤ rm0.frames ∧ 8 + (nL' + 11) + rm'.locals ≤ rm0.locals) (hr2 : k + rm'.cells ≤ rm0.cells ∧ n + rm'.slots ≤ rm0.slots) : z_Run X F nL k n pc loc st0 rest G M rm'.cells rm'.slots (Value.ref a :: As).toArray Q' := by
  intro H locs ls hH hz hl hL
  obtain ⟨r, h1, cell, q1, q2, q3, q4⟩ := (hH.2 a _ hg).2
  have hr : r = (C, T, N) := Option.some.inj (h1.symm.trans hcl.1)
  subst hr
  exact vx_runV (own := own) (nL := nL) (Ts := z_tbl) ⟨B.1, B.2.1, B.2.2.1, B.2.2.2.2.1, B.2.2.2.2.2.1⟩ hct (cwV np B.2.2.2.2.2.1 (z_gV hm hlk) rfl rfl rfl hm.2.2.2.2 (by rw [hR]; exact hr1)) ⟨z_blind, ⟨cell, q1, by rw [q3]; rfl, by rw [q2]; exact (B.K.1 ci _ hcl.1).2.1⟩, z_pre B hH⟩ rfl hlen hL.1 hst (lv_room hcat) d (by rw [hR]; exact hr2)
theorem zr_S (B : z_B X F own cc nL ret) (hR : F.2.2.1 = rm0) {y : MethodName} {cc' : ByteArray} {nL' np ix : Nat} {ret' : Option FieldType} (hm : z_mS y cc' nL' ret' np) (hlk : Cond.methodLink own ix y ∈ z_tbl) (As : List Value) {rest st0 : List Value} (hlen : As.length = np) (hst : st0 = As.reverse ++ rest) (hcat : (rest.map fun v => v.category).sum ≤ 8) (d : decode cc pc = .ok (.invokestatic ix, 3)) {rm' : Room} {Q' : z_O → z_Gr → z_Mem → Prop} (hct : z_Ct X y cc' nL' ret' rm' As G M Q') (hr1 : rm'.frames + 1 ≤ rm0.frames ∧ 8 + (nL' + 11) + rm'.locals ≤ rm0.locals) (hr2 : k + rm'.cells ≤ rm0.cells ∧ n + rm'.slots ≤ rm0.slots) : z_Run X F nL k n pc loc st0 rest G M rm'.cells rm'.slots As.toArray Q' := by
  intro H locs ls hH hz hl hL
  exact vx_runS (own := own) (nL := nL) (Ts := z_tbl) ⟨B.1, B.2.1, B.2.2.1, B.2.2.2.2.1, B.2.2.2.2.2.1⟩ hct (va_cwS np B.2.2.2.2.2.1 (z_gS hm hlk) rfl rfl rfl hm.2.2.2 (by rw [hR]; exact hr1)) ⟨z_blind, z_pre B hH⟩ rfl hlen hL.1 hst (lv_room hcat) d (by rw [hR]; exact hr2)
/-- what a call of a method with the term Kc leads to -/
theorem zk_call (B : z_B X F own cc nL ret) {β' : Type} {cv' : β' → z_O × z_Mem} {Kc : Option β'} {f : β' → Option β} {mc' ms' : Nat} {av : Array Value} {rest st0 : List Value} (hne : own ≠ RL ∨ ∀ b e M1, cv' b ≠ (.error e, M1))
    (hrun : ∀ b, Kc = some b → z_Run X F nL k n pc loc st0 rest G M mc' ms' av (fun o G' M' => G' = G ∧ (o, M') = cv' b))
    (kk : ∀ b, Kc = some b → ∀ v M1, cv' b = (.ok v, M1) → z_K X F nL mc ms G cv b0 (k + mc') (n + ms') (pc + 3) loc (v.toList ++ rest) M1 (f b))
    (kx : ∀ b e M1, cv' b = (.error e, M1) → ∃ b1, f b = some b1 ∧ cv b1 = (.error e, M1)) (hk : k + mc' ≤ mc) (hs : n + ms' ≤ ms) : z_K X F nL mc ms G cv b0 k n pc loc st0 M (zb Kc f) := by
  intro h0 H locs ls hH hz hl hL T hT XX
  obtain ⟨b, hb, hfb⟩ := zb_some h0
  rcases hrun b hb H locs ls hH hz hl hL T hT XX with ⟨v, st₀, t, T', L, e0, X', hL', e1, e2, hq, stp⟩ | ⟨q, st₀, t, T', L, E, ce, e0, X', hL', e1, e2, hq, hce, hcv, hcl, stp⟩
  · obtain ⟨hsz, v', G', M1, ev, ⟨rfl, hcv'⟩, hH'⟩ := hq
    cases ev
    rw [e0] at hsz
    obtain ⟨t2, a1, b1⟩ := kk b hb v M1 hcv'.symm hfb T'.heap (locs ++ L) ls (by rw [e1]; exact hH') (by rw [e1]; exact Nat.le_trans hz hsz) (t_lL hl hL') hL T' rfl X'
    exact ⟨t2, stp t2 a1, b1⟩
  · obtain ⟨hsz, ke, G', M1, eE, ⟨rfl, hcv'⟩, hH'⟩ := hq
    have hno : ∀ x ∈ F.2.2.2.2.2.2.2.2.exceptionTable.toList, False := by
      rcases hne with hne | hne
      · exact B.2.2.2.2.2.2.2.1.resolve_left hne
      · exact absurd hcv'.symm (hne b ke M1)
    obtain ⟨b1, hb1, hcb⟩ := kx b ke M1 hcv'.symm
    have hbb : b1 = b0 := Option.some.inj (hb1.symm.trans hfb)
    subst hbb
    rw [e0] at hsz
    obtain ⟨t2, a1, b1'⟩ := vx_out (Qc := z_Qc X (fun o G'' M' => G'' = G' ∧ (o, M') = cv b1)) (XC := z_XC X (fun o G'' M' => G'' = G' ∧ (o, M') = cv b1)) (free := z_A X) (pc := pc) (ls := ls) (rest := rest) (fun x hx => (hno x hx).elim) B.2.2.2.2.2.2.1 (by rw [e1]; exact hce) hcv hcl (fun t9 ht9 _ => ⟨by rw [ht9, e1]; exact Nat.le_trans hz hsz, ke, G', M1, eE, ⟨rfl, hcb.symm⟩, by rw [ht9, e1]; exact hH'⟩) (t_lL hl hL') hk hs T' rfl X'
    exact ⟨t2, stp.trans a1, b1'⟩
end ZR3
/-- a contract out of a walk -/
theorem z_enter {X : z_X} (hX : z_ok X) {y : MethodName} {cc : ByteArray} {nL : Nat} {ret : Option FieldType} {rm : Room} {av : List Value} {G : z_Gr} {M : z_Mem} {β : Type} {cv : β → z_O × z_Mem} {K : Option β} {b0 : β} (hy : plainName y.cls = true) (hlen : (lg_sl av).length ≤ nL) (hK : K = some b0)
    (body : ∀ F : z_F, z_B X F y.cls cc nL ret → F.2.2.1 = rm → z_K X F nL rm.cells rm.slots G cv b0 0 0 0 (lv_args 0 av) [] M K) : z_Ct X y cc nL ret rm av G M (fun o G' M' => G' = G ∧ (o, M') = cv b0) := by
  refine vx_ofW (cc := cc) (maxL := nL) (ret := ret) hy rfl ?_
  intro p e s m args below meth c s₁ B hml hnt hv
  obtain ⟨rfl, hW, hH⟩ := hv
  have hts := atoms_spec (ws := z_ws y cc nL ret) B.pre
  rw [lg_entry_eq]
  exact body (p, e, _, s, m, _, below, meth, c) ⟨B.exec, B.bytes, hml, B.returns, findClass_of_methodNamed B.named, fun w hw => hts w (List.mem_cons_of_mem _ hw), B.notSynchronized, Or.inr hnt, hW, hH.1, hX⟩ rfl hK s.heap [] _ hH (Nat.le_refl _) (fun q h => by cases h) (lv_entry av hlen)
