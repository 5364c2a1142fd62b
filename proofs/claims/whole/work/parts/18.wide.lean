/-! ===== throws whose text stands at a wide index ===== -/
section ZTJ
variable {p : Program} {l : Launch} {e : Env} {R : Room} {s : State} {m : MethodId} {args : Array Value} {below : List Frame} {meth : Method} {c : Code} {H : Heap} {locs : List Loc} {cells slots : Nat} {Q : State → Prop}
variable {ls : Array Slot} {rest : List Value} {Qc : Array Value → State → Outcome → State → Prop} {XC : String → State → State → Prop} {free : Addr → Prop}
theorem z_throwTW {cc : ByteArray} {pc : Nat} {own cls text Y9 : String} {names : List String} {ix9 : Nat} {by9 : ByteArray} {ik is ic mc ms sa : Nat} {A : Nat → Prop} (hb0 : decode by9 0 = .ok (.aload_n 0, 1)) (hb1 : decode by9 1 = .ok (.aload_n 1, 1)) (hb2 : decode by9 2 = .ok (.invokespecial ix9, 3)) (hb5 : decode by9 5 = .ok (.return_, 1)) (hY9 : Bundle.fit Y9 = true) (hexec : p.tables.exec = Jvm.exec) (hb : c.code = cc) (hl : l.stackTraces = false)
    (hown : s.vm.findClass own = some m.cls) (hcls : Bundle.fit cls = true) (hnames : ∀ n ∈ names, Bundle.fit n = true)
    (hk : (Cond.classLink own ik cls).before args s = true) (hini : (Cond.initialized cls).before args s = true) (hstr : vk_R own is text sa s) (hat : ∀ w ∈ z_atN own ic cls Y9 ix9 by9 names, w.before args s = true)
    (hgood : ∀ w ∈ Cond.classLink own ik cls :: Cond.initialized cls :: z_atN own ic cls Y9 ix9 by9 names, vx_ot w = true)
    (hU : vx_Zq Bundle.tN "UNASSIGNED_STACK" Bundle.steD A s s.heap) (hN : vx_Zq Bundle.tN "SUPPRESSED_SENTINEL" Bundle.listD A s s.heap) (hS : va_S A s.heap H locs) (hsize : ls.size = c.maxLocals)
    (d0 : decode cc pc = .ok (.new ik, 3)) (d3 : decode cc (pc + 3) = .ok (.dup, 1)) (d4 : decode cc (pc + 4) = .ok (.ldc_w is, 3)) (d7 : decode cc (pc + 7) = .ok (.invokespecial ic, 3)) (d10 : decode cc (pc + 10) = .ok (.athrow, 1))
    (hout : ∀ x ∈ c.exceptionTable.toList, covers x (pc + 10) = false)
    (hRframes : names.length + 4 < R.frames) (hRlocals : (rest.map fun v => v.category).sum + (13 * (names.length + 2) + 43) ≤ R.locals) (hRcells : cells + 1 ≤ R.cells) (hRslots : slots + 6 ≤ R.slots) (hlocks : meth.locks = false)
    (hx : ∀ t : State, s.vm.Alike t.vm → H.size ≤ t.heap.size → (∀ q : Nat, q < H.size → t.heap[q]? = H[q]?) → XC cls s t)
    (hf : ∀ z ∈ locs, free z.base) (hc : cells + 1 ≤ mc) (hs : slots + 6 ≤ ms) :
    W p l e R s m args below meth c H locs cells slots (vx_MQ below Qc XC args s mc ms free) (F0 m pc ls rest) := by
  intro T hT X
  have htr : e.platform.stackTraces = false := (show e.platform.stackTraces = l.stackTraces by rw [X.admits.platform]).trans hl
  have Y := vx_rebase X (R' := { frames := R.frames, locals := R.locals, cells := 1, slots := 6 }) (Nat.le_refl _) (Nat.le_refl _) hRcells hRslots
  obtain ⟨s', hA⟩ : ∃ z, z = (T.setVm s.vm).setFrames (.invoking m args :: below) := ⟨_, rfl⟩
  rw [← hA] at Y
  have hvm : s'.vm = s.vm := by rw [hA]; rfl
  have hhp : s'.heap = H := by rw [hA]; exact hT
  have hW0 : s.WarmedH s'.vm := by rw [hvm]; exact State.WarmedH.refl s
  have hat' : ∀ w ∈ z_atN own ic cls Y9 ix9 by9 names, w.before args s' = true := fun w hw => vx_ot_at hW0 hvm.symm (hgood w (List.mem_cons_of_mem _ (List.mem_cons_of_mem _ hw))) (hat w hw)
  have hk' : (Cond.classLink own ik cls).before args s' = true := vx_ot_at hW0 hvm.symm (hgood _ List.mem_cons_self) hk
  have hini' : (Cond.initialized cls).before args s' = true := vx_ot_at hW0 hvm.symm (hgood _ (List.mem_cons_of_mem _ List.mem_cons_self)) hini
  have hU' : vx_Zq Bundle.tN "UNASSIGNED_STACK" Bundle.steD A s' s'.heap := by rw [hhp]; exact vx_Zq.moved hW0.alike (hU.kept hS.2.1)
  have hN' : vx_Zq Bundle.tN "SUPPRESSED_SENTINEL" Bundle.listD A s' s'.heap := by rw [hhp]; exact vx_Zq.moved hW0.alike (hN.kept hS.2.1)
  have h : ∀ w ∈ z_own own ic cls Y9 ix9 by9 names, w.before args s' = true := vx_own hat' (vx_isRefq hU'.1) (vx_isRefq hN'.1) hU'.2.word hN'.2.word
  have hown' : s'.vm.findClass own = some m.cls := by rw [hvm]; exact hown
  have hins : (Cond.instantiable cls 6).before args s' = true := h _ (by simp [z_own])
  obtain ⟨vm₁, cX, kX, hfX, hkX, -, -, X₁, st1⟩ := Y.newCold hexec (own := own) (C := cls) (index := ik) (n := 6) hown' hk' hins hini'
    (g := F0 m pc ls rest) rfl (by rw [hb]; exact d0) (Nat.le_refl _) (Nat.le_refl _)
  generalize hT1 : (T.setVm vm₁).pushCell { cls := cX, slots := kX.instanceTypes.map defaultValue, vm := .none } = T1 at X₁ st1
  have hcat : (Value.ref T.heap.size).category = 1 := rfl
  have hcellA : T1.heap[T.heap.size]? = some (freshCell cX kX) := by rw [← hT1]; exact State.heap_pushCell_size _ _
  have d3' : decode c.code (pc + 3) = .ok (.dup, 1) := by rw [hb]; exact d3
  have d4' : decode c.code (pc + 4) = .ok (.ldc_w is, 3) := by rw [hb]; exact d4
  have hstr' : vk_R own is text sa s' := vk_R.warm hW0 hstr
  obtain ⟨U, hsteps, hrun, hend, hW, hsame, ce, hce, hOv, hOc⟩ := z_ctorThrow X₁ hexec htr hb0 hb1 hb2 hb5 hY9 (own := own) (cls := cls) (names := names) (ic := ic) hown' hcls hnames h (fun x hx => nomatch hx) hfX hkX hcellA (by rw [hhp, hT]; exact Nat.le_refl _) (msg := .ref sa) rfl
    (g := { method := m, pc := pc + 7, locals := ls, stack := .ref sa :: .ref T.heap.size :: .ref T.heap.size :: rest, locked := none }) rfl hsize rfl rfl (rest := rest) rfl
    (by rw [hb]; exact d7) (by rw [hb]; exact d10) hout hRframes (by simp only [List.map_cons, List.sum_cons, hcat]; omega) hlocks
  obtain ⟨f1, f2⟩ := vx_frame hsame
  rw [hhp] at f1 f2
  have hWs : s.WarmedH U.vm := State.WarmedH.trans hW0 hW
  have hcl : s.vm.findClass cls = some ce.cls := by
    have h9 := hOc
    rw [hvm] at h9
    exact h9
  have hall : s.sameButNew ({ U with vm := s.vm } : State) locs mc ms := by
    subst hA
    obtain ⟨e1, e2⟩ := hsame
    rw [State.setFrames_setFrames] at e1
    have h2 : (T.setVm s.vm).sameButNew ({ U with vm := s.vm } : State) [] (0 + 1) (0 + 6) := ⟨e1, e2⟩
    have h3 := X.same.trans h2
    rw [List.append_nil] at h3
    exact h3.mono hc hs
  refine ⟨U, ?_, .threw T.heap.size, hrun, hend, Or.inr ⟨T.heap.size, rfl, cls, ce, locs, hx U hWs.alike f1 (fun q hq => f2 q hq (fun z hz => nomatch hz)), hce, hOv, hcl, hWs, hall, hf⟩⟩
  refine st1 _ ?_
  show Steps p.tables e below (T1.setTop { method := m, pc := pc + 3, locals := ls, stack := .ref T.heap.size :: rest, locked := none }) _
  jvm_step X₁.here [X₁.here.top, hexec, d3', Value.category]
  exact X₁.ldcStringW hexec (own := own) (text := text) (index := is) (a := sa) hown' hstr'.1 hstr'.2
    (g := { method := m, pc := pc + 4, locals := ls, stack := .ref T.heap.size :: .ref T.heap.size :: rest, locked := none }) rfl d4' _ hsteps
end ZTJ
section ZR5w
variable {X : z_X} {F : z_F} {cc : ByteArray} {nL mc ms : Nat} {ret : Option FieldType} {G : z_Gr} {β : Type} {cv : β → z_O × z_Mem} {b0 : β} {k n pc : Nat} {loc loc' : List (Nat × Value)} {st : List Value} {M : z_Mem} {K : Option β} {rm0 : Room}
/-- 'throw new E("text")' -/
theorem zk_throw1w (B : z_B X F RX11 cc nL ret) (hR : F.2.2.1 = rm0) (ik is : Nat) {text : String} {b : β} (hlk : Cond.classLink RX11 ik (z_en 1) ∈ z_tbl) (hini : Cond.initialized (z_en 1) ∈ z_tbl) (hs : (is, text) ∈ z_strs)
    (d0 : decode cc pc = .ok (.new ik, 3)) (d3 : decode cc (pc + 3) = .ok (.dup, 1)) (d4 : decode cc (pc + 4) = .ok (.ldc_w is, 3)) (d6 : decode cc (pc + 7) = .ok (.invokespecial 209, 3)) (d9 : decode cc (pc + 10) = .ok (.athrow, 1))
    (h1 : 6 ≤ rm0.frames) (h2 : (st.map fun v => v.category).sum + 82 ≤ rm0.locals) (h3 : k + 1 ≤ rm0.cells) (h4 : n + 6 ≤ rm0.slots) (hk : k + 1 ≤ mc) (hn : n + 6 ≤ ms) (hb : cv b = (.error 1, M)) : z_K X F nL mc ms G cv b0 k n pc loc st M (some b) := by
  intro h0 H locs ls hH hz hf hL
  cases Option.some.inj h0
  have hat : ∀ w ∈ z_w1, w.before F.2.2.2.2.2.1 F.2.2.2.1 = true := vx_hat (fun w hw => B.2.2.2.2.2.1 w (z_at1 w hw)) z_an1 (z_nws B.ok B.2.2.2.2.2.2.2.2.1)
  have hgood : ∀ w ∈ Cond.classLink RX11 ik (z_en 1) :: Cond.initialized (z_en 1) :: z_w1, vx_ot w = true := by
    intro w hw
    rcases List.mem_cons.mp hw with rfl | hw
    · rfl
    · rcases List.mem_cons.mp hw with rfl | hw
      · rfl
      · exact z_ao1 w hw
  have hS := hH.1.S B hz hf
  refine z_throwTW (Y9 := "java/lang/RuntimeException") (ix9 := 13) (by9 := prog_28_method_4_code) (A := z_A X) (sa := X.2.2.2.2 is) (names := ["java/lang/Exception"]) (by decide +kernel) (by decide +kernel) (by decide +kernel) (by decide +kernel) (by decide) B.1 B.2.1 B.ok.1 B.2.2.2.2.1 (by decide) (by decide) (B.2.2.2.2.2.1 _ hlk) (B.2.2.2.2.2.1 _ hini) (vk_R.warm B.2.2.2.2.2.2.2.2.1 (B.ok.2.2.1 _ hs)) hat hgood
    ((B.ok.2.2.2.2.2.2.1.moved B.2.2.2.2.2.2.2.2.1.alike).kept B.2.2.2.2.2.2.2.2.2.1.A) ((B.ok.2.2.2.2.2.2.2.moved B.2.2.2.2.2.2.2.2.1.alike).kept B.2.2.2.2.2.2.2.2.2.1.A) hS (hL.1.trans B.2.2.1.symm) d0 d3 d4 d6 d9 (fun x hx => (B.2.2.2.2.2.2.2.1.resolve_left (by decide) x hx).elim)
    (by rw [hR]; exact h1) (by rw [hR]; exact h2) (by rw [hR]; exact h3) (by rw [hR]; exact h4) B.2.2.2.2.2.2.1 (fun t ht hsz hq => ?_) hf hk hn
  exact ⟨Nat.le_trans hz hsz, 1, G, M, rfl, ⟨rfl, hb.symm⟩, hH.more hsz hq⟩
/-- 'throw new E("text")' -/
theorem zk_throw2w (B : z_B X F RX11 cc nL ret) (hR : F.2.2.1 = rm0) (ik is : Nat) {text : String} {b : β} (hlk : Cond.classLink RX11 ik (z_en 2) ∈ z_tbl) (hini : Cond.initialized (z_en 2) ∈ z_tbl) (hs : (is, text) ∈ z_strs)
    (d0 : decode cc pc = .ok (.new ik, 3)) (d3 : decode cc (pc + 3) = .ok (.dup, 1)) (d4 : decode cc (pc + 4) = .ok (.ldc_w is, 3)) (d6 : decode cc (pc + 7) = .ok (.invokespecial 121, 3)) (d9 : decode cc (pc + 10) = .ok (.athrow, 1))
    (h1 : 6 ≤ rm0.frames) (h2 : (st.map fun v => v.category).sum + 82 ≤ rm0.locals) (h3 : k + 1 ≤ rm0.cells) (h4 : n + 6 ≤ rm0.slots) (hk : k + 1 ≤ mc) (hn : n + 6 ≤ ms) (hb : cv b = (.error 2, M)) : z_K X F nL mc ms G cv b0 k n pc loc st M (some b) := by
  intro h0 H locs ls hH hz hf hL
  cases Option.some.inj h0
  have hat : ∀ w ∈ z_w2, w.before F.2.2.2.2.2.1 F.2.2.2.1 = true := vx_hat (fun w hw => B.2.2.2.2.2.1 w (z_at2 w hw)) z_an2 (z_nws B.ok B.2.2.2.2.2.2.2.2.1)
  have hgood : ∀ w ∈ Cond.classLink RX11 ik (z_en 2) :: Cond.initialized (z_en 2) :: z_w2, vx_ot w = true := by
    intro w hw
    rcases List.mem_cons.mp hw with rfl | hw
    · rfl
    · rcases List.mem_cons.mp hw with rfl | hw
      · rfl
      · exact z_ao2 w hw
  have hS := hH.1.S B hz hf
  refine vx_throwSW (A := z_A X) (sa := X.2.2.2.2 is) (names := ["java/lang/RuntimeException", "java/lang/Exception"]) B.1 B.2.1 B.ok.1 B.2.2.2.2.1 (by decide) (by decide) (B.2.2.2.2.2.1 _ hlk) (B.2.2.2.2.2.1 _ hini) (vk_R.warm B.2.2.2.2.2.2.2.2.1 (B.ok.2.2.1 _ hs)) hat hgood
    ((B.ok.2.2.2.2.2.2.1.moved B.2.2.2.2.2.2.2.2.1.alike).kept B.2.2.2.2.2.2.2.2.2.1.A) ((B.ok.2.2.2.2.2.2.2.moved B.2.2.2.2.2.2.2.2.1.alike).kept B.2.2.2.2.2.2.2.2.2.1.A) hS (hL.1.trans B.2.2.1.symm) d0 d3 d4 d6 d9 (fun x hx => (B.2.2.2.2.2.2.2.1.resolve_left (by decide) x hx).elim)
    (by rw [hR]; exact h1) (by rw [hR]; exact h2) (by rw [hR]; exact h3) (by rw [hR]; exact h4) B.2.2.2.2.2.2.1 (fun t ht hsz hq => ?_) hf hk hn
  exact ⟨Nat.le_trans hz hsz, 2, G, M, rfl, ⟨rfl, hb.symm⟩, hH.more hsz hq⟩
end ZR5w
theorem z_ne {x v : Int32} (h : ¬ x = v) {z : Int} (e : v.toInt = z) : x.toInt ≠ z := fun q => h (Int32.toInt_inj.mp (q.trans e.symm))
theorem z_nest_0 : Cond.fieldLinkNest RX0 45 RX11 (z_sn 0) "[I" RX11 ∈ z_nest := List.mem_cons_self
theorem z_nest_1 : Cond.fieldLinkNest RX7 100 RX11 (z_sn 1) "[I" RX11 ∈ z_nest := List.mem_cons_of_mem _ List.mem_cons_self
theorem z_nest_2 : Cond.fieldLinkNest RX7 104 RX11 (z_sn 2) "[I" RX11 ∈ z_nest := List.mem_cons_of_mem _ (List.mem_cons_of_mem _ List.mem_cons_self)
