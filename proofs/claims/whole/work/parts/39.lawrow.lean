/-! ===== the law's own methods: one with handlers, and a call in it ===== -/
def z_okN (X : z_X) : Prop := va_Nc (z_en 1) (z_en 2) X.2.1 ∧ va_Nc (z_en 2) (z_en 1) X.2.1
def z_wsW (y : MethodName) (cc : ByteArray) (nL : Nat) (ret : Option FieldType) (hh : List (Nat × Nat × Nat × Nat)) : List Cond := Cond.codeWith y cc nL ret hh :: z_tbl
/-- a contract of a method with handlers -/
def z_CtW (X : z_X) (y : MethodName) (cc : ByteArray) (nL : Nat) (ret : Option FieldType) (hh : List (Nat × Nat × Nat × Nat)) (rm : Room) (av : List Value) (G : z_Gr) (M : z_Mem) (Q : z_O → z_Gr → z_Mem → Prop) : Prop :=
  vx_Met X.1 y (z_wsW y cc nL ret hh) rm (va_Pc av (z_U X G M)) (z_Qc X Q) (z_XC X Q) rm.cells rm.slots (z_A X)
def z_mW (y : MethodName) (cc : ByteArray) (nL : Nat) (ret : Option FieldType) (hh : List (Nat × Nat × Nat × Nat)) (np : Nat) : Prop := Cond.static y ∈ z_tbl ∧ Cond.initialized y.cls ∈ z_tbl ∧ Cond.codeWith y cc nL ret hh ∈ z_tbl ∧ (y.cls ≠ "java/lang/invoke/MethodHandle" ∧ y.cls ≠ "java/lang/invoke/VarHandle" ∧ (parseMethodDescriptor y.desc).map (fun d => d.parameters.length) = some np)
theorem z_gW {own : String} {ix : Nat} {y : MethodName} {cc : ByteArray} {nL : Nat} {ret : Option FieldType} {hh : List (Nat × Nat × Nat × Nat)} {np : Nat} (hm : z_mW y cc nL ret hh np) (h : Cond.methodLink own ix y ∈ z_tbl) : GoodIn z_tbl (va_wsS own ix y (z_wsW y cc nL ret hh)) := by
  obtain ⟨h1, h2, h4, -⟩ := hm
  intro w hw
  unfold va_wsS at hw
  rcases List.mem_append.mp hw with hw | hw
  · simp only [List.mem_cons, List.not_mem_nil, or_false] at hw
    rcases hw with rfl | rfl | rfl
    · exact z_gT h
    · exact z_gT h1
    · exact z_gT h2
  · rcases List.mem_cons.mp hw with rfl | hw
    · exact z_gT h4
    · exact z_gT hw
theorem z_enterW {X : z_X} (hX : z_ok X) {y : MethodName} {cc : ByteArray} {nL : Nat} {ret : Option FieldType} {hh : List (Nat × Nat × Nat × Nat)} {rm : Room} {av : List Value} {G : z_Gr} {M : z_Mem} {β : Type} {cv : β → z_O × z_Mem} {K : Option β} {b0 : β} (hy : plainName y.cls = true) (hc : y.cls = RL) (hlen : (lg_sl av).length ≤ nL) (hK : K = some b0)
    (body : ∀ F : z_F, z_B X F RL cc nL ret → F.2.2.2.2.2.2.2.2.exceptionTable.toList = tableOf hh → F.2.2.1 = rm → z_K X F nL rm.cells rm.slots G cv b0 0 0 0 (lv_args 0 av) [] M K) : z_CtW X y cc nL ret hh rm av G M (fun o G' M' => G' = G ∧ (o, M') = cv b0) := by
  refine vx_ofWH (cc := cc) (maxL := nL) (ret := ret) (hh := hh) hy rfl ?_
  intro p e s m args below meth c s₁ B hml hv
  obtain ⟨rfl, hW, hH⟩ := hv
  have hts := atoms_spec (ws := z_wsW y cc nL ret hh) B.pre
  have htab := vx_table (x := y) B (hts _ List.mem_cons_self)
  have hf := findClass_of_methodNamed B.named
  rw [hc] at hf
  rw [lg_entry_eq]
  exact body (p, e, _, s, m, _, below, meth, c) ⟨B.exec, B.bytes, hml, B.returns, hf, fun w hw => hts w (List.mem_cons_of_mem _ hw), B.notSynchronized, Or.inl rfl, hW, hH.1, hX⟩ htab rfl hK s.heap [] _ hH (Nat.le_refl _) (fun q h => by cases h) (lv_entry av hlen)
/-- a call that may throw, in a method with handlers: the value, or the exception's number, goes on -/
def zw {β' β : Type} (cx : β' → z_O × z_Mem) (Kc : Option β') (f : Int32 → z_Mem → Option β) (g : Nat → z_Mem → Option β) : Option β := zb Kc (fun b => match cx b with
  | (.ok (some (.int r)), M1) => f r M1
  | (.ok _, _) => none
  | (.error e, M1) => g e M1)
section ZRL
variable {X : z_X} {F : z_F} {cc : ByteArray} {nL mc ms : Nat} {ret : Option FieldType} {G : z_Gr} {β : Type} {cv : β → z_O × z_Mem} {b0 : β} {k n pc : Nat} {loc loc' : List (Nat × Value)} {st : List Value} {M : z_Mem} {K : Option β} {rm0 : Room}
theorem zr_W {own : String} (B : z_B X F own cc nL ret) (hR : F.2.2.1 = rm0) {y : MethodName} {cc' : ByteArray} {nL' np ix : Nat} {ret' : Option FieldType} {hh : List (Nat × Nat × Nat × Nat)} (hm : z_mW y cc' nL' ret' hh np) (hlk : Cond.methodLink own ix y ∈ z_tbl) (As : List Value) {rest st0 : List Value} (hlen : As.length = np) (hst : st0 = As.reverse ++ rest) (hcat : (rest.map fun v => v.category).sum ≤ 8) (d : decode cc pc = .ok (.invokestatic ix, 3)) {rm' : Room} {Q' : z_O → z_Gr → z_Mem → Prop} (hct : z_CtW X y cc' nL' ret' hh rm' As G M Q') (hr1 : rm'.frames + 1 ≤ rm0.frames ∧ 8 + (nL' + 11) + rm'.locals ≤ rm0.locals) (hr2 : k + rm'.cells ≤ rm0.cells ∧ n + rm'.slots ≤ rm0.slots) : z_Run X F nL k n pc loc st0 rest G M rm'.cells rm'.slots As.toArray Q' := by
  intro H locs ls hH hz hl hL
  exact vx_runSX (own := own) (nL := nL) (Ts := z_tbl) ⟨B.1, B.2.1, B.2.2.1, B.2.2.2.2.1, B.2.2.2.2.2.1⟩ hct (vx_cwSW np B.2.2.2.2.2.1 (z_gW hm hlk) rfl rfl rfl hm.2.2.2 (by rw [hR]; exact hr1)) ⟨z_blind, z_pre B hH⟩ rfl hlen hL.1 hst (lv_room hcat) d (by rw [hR]; exact hr2)
theorem zk_ctry (B : z_B X F RL cc nL ret) {hh : List (Nat × Nat × Nat × Nat)} (hT : F.2.2.2.2.2.2.2.2.exceptionTable.toList = tableOf hh) {β' : Type} {cx : β' → z_O × z_Mem} {Kc : Option β'} {f : Int32 → z_Mem → Option β} {g : Nat → z_Mem → Option β} {mc' ms' k' n' : Nat} {av : Array Value} {rest st0 : List Value} (hk' : k + mc' = k') (hn' : n + ms' = n')
    (hrun : ∀ b, Kc = some b → z_Run X F nL k n pc loc st0 rest G M mc' ms' av (fun o G' M' => G' = G ∧ (o, M') = cx b))
    (kk : ∀ r M1, z_K X F nL mc ms G cv b0 k' n' (pc + 3) loc (.int r :: rest) M1 (f r M1))
    (kx : ∀ e M1 b1, g e M1 = some b1 → ∃ (pre : List ExceptionTableEntry) (x : ExceptionTableEntry) (suf : List ExceptionTableEntry) (nm : String), tableOf hh = pre ++ x :: suf ∧ (∀ z ∈ pre, covers z pc = false ∨ (z.catchType ≠ 0 ∧ ∃ nm1 : String, Cond.classLink RL z.catchType nm1 ∈ z_tbl ∧ va_Nc (z_en e) nm1 X.2.1)) ∧ covers x pc = true ∧ x.catchType ≠ 0 ∧ Cond.classLink RL x.catchType nm ∈ z_tbl ∧ Cond.castable (z_en e) nm ∈ z_nw ∧ ∀ q : Nat, z_K X F nL mc ms G cv b0 k' n' x.handlerPc loc [.ref q] M1 (g e M1)) : z_K X F nL mc ms G cv b0 k n pc loc st0 M (zw cx Kc f g) := by
  subst hk'; subst hn'
  intro h0 H locs ls hH hz hl hL T hT' XX
  unfold zw at h0
  obtain ⟨b, hb, hfb⟩ := zb_some h0
  rcases hrun b hb H locs ls hH hz hl hL T hT' XX with ⟨v, st₀, t, T', L, e0, X', hL', e1, e2, hq, stp⟩ | ⟨q, st₀, t, T', L, E, ce, e0, X', hL', e1, e2, hq, hce, hcv, hcl, stp⟩
  · obtain ⟨hsz, v', G', M1, ev, ⟨rfl, hcv'⟩, hH'⟩ := hq
    cases ev
    rw [e0] at hsz
    rw [← hcv'] at hfb
    cases v with
    | none => cases hfb
    | some w =>
      cases w with
      | int r =>
        obtain ⟨t2, a1, b1⟩ := kk r M1 hfb T'.heap (locs ++ L) ls (by rw [e1]; exact hH') (by rw [e1]; exact Nat.le_trans hz hsz) (t_lL hl hL') hL T' rfl X'
        exact ⟨t2, stp t2 a1, b1⟩
      | _ => cases hfb
  · obtain ⟨hsz, ke, G', M1, eE, ⟨rfl, hcv'⟩, hH'⟩ := hq
    rw [e0] at hsz
    rw [← hcv'] at hfb
    subst eE
    have hfb' : g ke M1 = some b0 := hfb
    obtain ⟨pre, x, suf, nm, hsp, hps, hx, hx0, hxl, hxc, hK⟩ := kx ke M1 b0 hfb'
    have hW := B.2.2.2.2.2.2.2.2.1
    obtain ⟨t2, a1, b1⟩ := vx_catch (ls := ls) (rest := rest) B.2.2.2.2.1 pre x suf (hT.trans hsp) (fun z hz' => (hps z hz').imp id (fun ⟨z0, nm1, zl1, zn⟩ => ⟨z0, nm1, B.2.2.2.2.2.1 _ zl1, va_Nc.moved hW.alike zn⟩)) hx hx0 (B.2.2.2.2.2.1 _ hxl) (z_nws B.ok hW _ hxc) (by rw [e1]; exact hce) hcv hcl
      (hK q hfb' T'.heap (locs ++ L) ls (by rw [e1]; exact hH') (by rw [e1]; exact Nat.le_trans hz hsz) (t_lL hl hL') hL) T' rfl X'
    exact ⟨t2, stp.trans a1, b1⟩
theorem z_en_ne {e : Nat} (h : ¬ e = 1) : z_en e = z_en 2 := by unfold z_en; rw [if_neg h]; rfl
/-- one handler: of NoSuchElementException -/
theorem zk_ct1 (B : z_B X F RL cc nL ret) {en hp : Nat} (hT : F.2.2.2.2.2.2.2.2.exceptionTable.toList = tableOf [(0, en, hp, 18)]) (hen : pc < en) {β' : Type} {cx : β' → z_O × z_Mem} {Kc : Option β'} {f : Int32 → z_Mem → Option β} {g1 : z_Mem → Option β} {mc' ms' k' n' : Nat} {av : Array Value} {rest st0 : List Value} (hk' : k + mc' = k') (hn' : n + ms' = n')
    (hrun : ∀ b, Kc = some b → z_Run X F nL k n pc loc st0 rest G M mc' ms' av (fun o G' M' => G' = G ∧ (o, M') = cx b))
    (kk : ∀ r M1, z_K X F nL mc ms G cv b0 k' n' (pc + 3) loc (.int r :: rest) M1 (f r M1))
    (kx : ∀ (M1 : z_Mem) (q : Nat), z_K X F nL mc ms G cv b0 k' n' hp loc [.ref q] M1 (g1 M1)) : z_K X F nL mc ms G cv b0 k n pc loc st0 M (zw cx Kc f (fun e M1 => if e = 1 then g1 M1 else none)) := by
  refine zk_ctry B hT hk' hn' hrun kk (fun e M1 b1 h => ?_)
  by_cases he : e = 1
  · refine ⟨[], ⟨0, en, hp, 18⟩, [], z_en 1, rfl, fun z hz => (nomatch hz), (by simp [covers, hen]), (Nat.succ_ne_zero 17), kk_L_18, (by subst he; simp [z_nw]), fun q => ?_⟩
    rw [if_pos he]
    exact kx M1 q
  · rw [if_neg he] at h
    cases h
/-- one handler: of IllegalArgumentException -/
theorem zk_ct2 (B : z_B X F RL cc nL ret) {en hp : Nat} (hT : F.2.2.2.2.2.2.2.2.exceptionTable.toList = tableOf [(0, en, hp, 13)]) (hen : pc < en) {β' : Type} {cx : β' → z_O × z_Mem} {Kc : Option β'} {f : Int32 → z_Mem → Option β} {g1 : z_Mem → Option β} {mc' ms' k' n' : Nat} {av : Array Value} {rest st0 : List Value} (hk' : k + mc' = k') (hn' : n + ms' = n')
    (hrun : ∀ b, Kc = some b → z_Run X F nL k n pc loc st0 rest G M mc' ms' av (fun o G' M' => G' = G ∧ (o, M') = cx b))
    (kk : ∀ r M1, z_K X F nL mc ms G cv b0 k' n' (pc + 3) loc (.int r :: rest) M1 (f r M1))
    (kx : ∀ (M1 : z_Mem) (q : Nat), z_K X F nL mc ms G cv b0 k' n' hp loc [.ref q] M1 (g1 M1)) : z_K X F nL mc ms G cv b0 k n pc loc st0 M (zw cx Kc f (fun e M1 => if e = 1 then none else g1 M1)) := by
  refine zk_ctry B hT hk' hn' hrun kk (fun e M1 b1 h => ?_)
  by_cases he : e = 1
  · rw [if_pos he] at h
    cases h
  · refine ⟨[], ⟨0, en, hp, 13⟩, [], z_en 2, rfl, fun z hz => (nomatch hz), (by simp [covers, hen]), (Nat.succ_ne_zero 12), kk_L_13, (by rw [z_en_ne he]; simp [z_nw]), fun q => ?_⟩
    rw [if_neg he]
    exact kx M1 q
/-- both handlers -/
theorem zk_ctB (B : z_B X F RL cc nL ret) (hN : z_okN X) {en hp hp2 : Nat} (hT : F.2.2.2.2.2.2.2.2.exceptionTable.toList = tableOf [(0, en, hp, 18), (0, en, hp2, 13)]) (hen : pc < en) {β' : Type} {cx : β' → z_O × z_Mem} {Kc : Option β'} {f : Int32 → z_Mem → Option β} {g1 g2 : z_Mem → Option β} {mc' ms' k' n' : Nat} {av : Array Value} {rest st0 : List Value} (hk' : k + mc' = k') (hn' : n + ms' = n')
    (hrun : ∀ b, Kc = some b → z_Run X F nL k n pc loc st0 rest G M mc' ms' av (fun o G' M' => G' = G ∧ (o, M') = cx b))
    (kk : ∀ r M1, z_K X F nL mc ms G cv b0 k' n' (pc + 3) loc (.int r :: rest) M1 (f r M1))
    (kx : ∀ (M1 : z_Mem) (q : Nat), z_K X F nL mc ms G cv b0 k' n' hp loc [.ref q] M1 (g1 M1)) (kx2 : ∀ (M1 : z_Mem) (q : Nat), z_K X F nL mc ms G cv b0 k' n' hp2 loc [.ref q] M1 (g2 M1)) : z_K X F nL mc ms G cv b0 k n pc loc st0 M (zw cx Kc f (fun e M1 => if e = 1 then g1 M1 else g2 M1)) := by
  refine zk_ctry B hT hk' hn' hrun kk (fun e M1 b1 h => ?_)
  by_cases he : e = 1
  · refine ⟨[], ⟨0, en, hp, 18⟩, [⟨0, en, hp2, 13⟩], z_en 1, rfl, fun z hz => (nomatch hz), (by simp [covers, hen]), (Nat.succ_ne_zero 17), kk_L_18, (by subst he; simp [z_nw]), fun q => ?_⟩
    rw [if_pos he]
    exact kx M1 q
  · refine ⟨[⟨0, en, hp, 18⟩], ⟨0, en, hp2, 13⟩, [], z_en 2, rfl, fun z hz => ?_, (by simp [covers, hen]), (Nat.succ_ne_zero 12), kk_L_13, (by rw [z_en_ne he]; simp [z_nw]), fun q => ?_⟩
    · cases List.mem_singleton.mp hz
      exact Or.inr ⟨Nat.succ_ne_zero 17, z_en 1, kk_L_18, by rw [z_en_ne he]; exact hN.2⟩
    · rw [if_neg he]
      exact kx2 M1 q
end ZRL
