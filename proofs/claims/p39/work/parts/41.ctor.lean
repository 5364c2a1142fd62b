/-! ===== constructors: the graph grows. Addresses count from the law's start; the heap's size is known ===== -/
def z_sh (X : z_X) (g : z_Gr) : z_Gr := (fun a => if a < z_o X then none else g.1 (a - z_o X), fun a k => if a < z_o X then none else (g.2 (a - z_o X) k).map (fun b => z_o X + b))
def gN (g : z_Gr) (r : Nat) (sh : z_Sh) : z_Gr := (fun a => if a = r then some sh else g.1 a, g.2)
def gP (g : z_Gr) (r k b : Nat) : z_Gr := (g.1, fun a j => if a = r ∧ j = k then some b else g.2 a j)
theorem z_sh1 {X : z_X} {g : z_Gr} (r : Nat) : (z_sh X g).1 (z_o X + r) = g.1 r := by
  show (if z_o X + r < z_o X then none else g.1 (z_o X + r - z_o X)) = _
  rw [if_neg (by omega), Nat.add_sub_cancel_left]
theorem z_sh2 {X : z_X} {g : z_Gr} (r k : Nat) : (z_sh X g).2 (z_o X + r) k = (g.2 r k).map (fun b => z_o X + b) := by
  show (if z_o X + r < z_o X then none else (g.2 (z_o X + r - z_o X) k).map (fun b => z_o X + b)) = _
  rw [if_neg (by omega), Nat.add_sub_cancel_left]
theorem z_shN1 {X : z_X} {g : z_Gr} {t a : Nat} {sh : z_Sh} (h : a ≠ z_o X + t) : (z_sh X (gN g t sh)).1 a = (z_sh X g).1 a := by
  by_cases h0 : a < z_o X
  · simp [z_sh, h0]
  · have h1 : ¬ a - z_o X = t := by omega
    simp [z_sh, gN, h0, h1]
theorem z_shP2 {X : z_X} {g : z_Gr} {r k b a : Nat} (h : a ≠ z_o X + r) : (z_sh X (gP g r k b)).2 a = (z_sh X g).2 a := by
  funext j
  by_cases h0 : a < z_o X
  · simp [z_sh, h0]
  · have h1 : ¬ a - z_o X = r := by omega
    simp [z_sh, gP, h0, h1]
theorem z_shP3 {X : z_X} {g : z_Gr} {r k b : Nat} (j : Nat) : (z_sh X (gP g r k b)).2 (z_o X + r) j = if j = k then some (z_o X + b) else (z_sh X g).2 (z_o X + r) j := by
  rw [z_sh2, z_sh2]
  by_cases h : j = k
  · simp [gP, h]
  · simp [gP, h]
theorem gN_k {g : z_Gr} {r t : Nat} {s sh : z_Sh} (h : g.1 r = some s) (hr : r < t) : (gN g t sh).1 r = some s := by
  show (if r = t then _ else _) = _
  rw [if_neg (by omega)]
  exact h
theorem gP_k {g : z_Gr} {r a k b : Nat} {s : z_Sh} (h : g.1 r = some s) : (gP g a k b).1 r = some s := h
theorem gP_g {g : z_Gr} {r k b : Nat} : (gP g r k b).2 r k = some b := by
  show (if r = r ∧ k = k then _ else _) = _
  rw [if_pos ⟨rfl, rfl⟩]
theorem gN_n {g : z_Gr} {t : Nat} {sh : z_Sh} : (gN g t sh).1 t = some sh := by
  show (if t = t then _ else _) = _
  rw [if_pos rfl]
theorem gP_o {g : z_Gr} {r k a j b c : Nat} (h : g.2 r k = some c) (hne : ¬ (r = a ∧ k = j)) : (gP g a j b).2 r k = some c := by
  show (if r = a ∧ k = j then _ else _) = _
  rw [if_neg hne]
  exact h
def z_zI : Nat → Int32 := fun _ => 0
def z_zL : Nat → Int64 := fun _ => 0
/-- from t on there is nothing yet -/
def z_fr (X : z_X) (g : z_Gr) (t : Nat) (M : z_Mem) : Prop := ∀ a, t ≤ a → g.1 a = none ∧ g.2 a = (fun _ => none) ∧ M.1 (z_o X + a) = z_zI ∧ M.2 (z_o X + a) = z_zL
theorem z_fr.new {X : z_X} {g : z_Gr} {t : Nat} {M : z_Mem} {sh : z_Sh} (h : z_fr X g t M) : z_fr X (gN g t sh) (t + 1) M := fun a ha => by
  obtain ⟨h1, h2, h3⟩ := h a (by omega)
  refine ⟨?_, h2, h3⟩
  show (if a = t then _ else _) = _
  rw [if_neg (by omega)]
  exact h1
theorem z_fr.ref {X : z_X} {g : z_Gr} {t r k b : Nat} {M : z_Mem} (h : z_fr X g t M) (hr : r < t) : z_fr X (gP g r k b) t M := fun a ha => by
  obtain ⟨h1, h2, h3⟩ := h a ha
  refine ⟨h1, ?_, h3⟩
  funext j
  show (if a = r ∧ j = k then _ else _) = _
  rw [if_neg (by omega)]
  exact congrFun h2 j
theorem z_fr.int {X : z_X} {g : z_Gr} {t r k : Nat} {v : Int32} {M : z_Mem} (h : z_fr X g t M) (hr : r < t) : z_fr X g t (z_wI M (z_o X + r) k v) := fun a ha => by
  obtain ⟨h1, h2, h3, h4⟩ := h a ha
  exact ⟨h1, h2, (z_wI_off (by omega)).trans h3, h4⟩
def z_cut (X : z_X) (t : Nat) (M : z_Mem) : z_Mem := (fun a k => if a < z_o X + t then M.1 a k else 0, fun a k => if a < z_o X + t then M.2 a k else 0)
theorem z_at.gr {X : z_X} {G G' : z_Gr} {M : z_Mem} {a : Nat} {sh : z_Sh} {H : Heap} (h : z_at X G M a sh H) (h1 : G'.2 a = G.2 a) : z_at X G' M a sh H := by
  cases sh with
  | inl ci =>
    obtain ⟨r, e1, e2⟩ := h
    exact ⟨r, e1, e2.to (fun k _ => by unfold z_fv; rw [h1])⟩
  | inr kn =>
    show H[a]? = some (vp_cell _ (_, z_av _ M _ _))
    have e : z_av kn.1 M G'.2 a = z_av kn.1 M G.2 a := by
      unfold z_av
      rw [h1]
    rw [e]
    exact h
theorem z_at.lt {X : z_X} {G : z_Gr} {M : z_Mem} {a : Nat} {sh : z_Sh} {H : Heap} (h : z_at X G M a sh H) : a < H.size := by
  cases sh with
  | inl ci =>
    obtain ⟨r, -, cell, e, -⟩ := h
    exact (Array.getElem?_eq_some_iff.mp e).1
  | inr kn => exact (Array.getElem?_eq_some_iff.mp h).1
theorem z_H.born {X : z_X} {G G' : z_Gr} {M : z_Mem} {H H1 : Heap} (hH : z_H X G M H) (o1 : ∀ q : Nat, q < H.size → H1[q]? = H[q]?) (z1 : H.size ≤ H1.size) (g1 : ∀ a, a ≠ H.size → G'.1 a = G.1 a) (g2 : ∀ a, a ≠ H.size → G'.2 a = G.2 a) (hat : ∀ sh, G'.1 H.size = some sh → z_at X G' M H.size sh H1) : z_H X G' M H1 := by
  refine ⟨⟨Nat.le_trans hH.1.1 z1, fun q hq => (o1 q (Nat.lt_of_lt_of_le hq hH.1.1)).trans (hH.1.2 q hq)⟩, fun b sb hb => ?_⟩
  by_cases hbs : b = H.size
  · subst hbs
    exact ⟨hH.1.1, hat sb hb⟩
  · rw [g1 b hbs] at hb
    obtain ⟨q1, q2⟩ := hH.2 b sb hb
    exact ⟨q1, (q2.kept (o1 b q2.lt)).gr (g2 b hbs)⟩
theorem z_H.ref {X : z_X} {G G' : z_Gr} {M : z_Mem} {H H' : Heap} {a : Nat} {sh : z_Sh} (hH : z_H X G M H) (hg : G.1 a = some sh) (z : H'.size = H.size) (oq : ∀ q : Nat, q ≠ a → H'[q]? = H[q]?) (g1 : G'.1 = G.1) (g2 : ∀ b, b ≠ a → G'.2 b = G.2 b) (hat : z_at X G' M a sh H') : z_H X G' M H' := by
  have ha := (hH.2 a sh hg).1
  refine ⟨hH.1.put ha z oq, fun b sb hb => ?_⟩
  rw [g1] at hb
  by_cases hba : b = a
  · subst hba
    rw [hg] at hb
    cases hb
    exact ⟨ha, hat⟩
  · exact ⟨(hH.2 b sb hb).1, ((hH.2 b sb hb).2.kept (oq b hba)).gr (g2 b hba)⟩
theorem z_H.cut {X : z_X} {g : z_Gr} {t : Nat} {M M' : z_Mem} {H : Heap} (hf : z_fr X g t M) (hH : z_H X (z_sh X g) M' H) : z_H X (z_sh X g) (z_cut X t M') H := by
  refine ⟨hH.1, fun a sh ha => ?_⟩
  obtain ⟨h1, h2⟩ := hH.2 a sh ha
  have hlt : a < z_o X + t := by
    by_cases hq : a < z_o X + t
    · exact hq
    · have e := z_sh1 (X := X) (g := g) (a - z_o X)
      rw [Nat.add_sub_cancel' h1, ha, (hf (a - z_o X) (by omega)).1] at e
      cases e
  exact ⟨h1, h2.mem (funext fun k => by simp [z_cut, hlt]) (funext fun k => by simp [z_cut, hlt])⟩
theorem z_fr.cut {X : z_X} {g : z_Gr} {t : Nat} {M M' : z_Mem} (hf : z_fr X g t M) : z_fr X g t (z_cut X t M') := fun a ha => by
  obtain ⟨h1, h2, -, -⟩ := hf a ha
  have hn : ¬ a < t := by omega
  exact ⟨h1, h2, funext fun k => by simp [z_cut, z_zI, hn], funext fun k => by simp [z_cut, z_zL, hn]⟩
def z_nct : List Cond := [.methodLinkNest RX11 28 yX9_init RX11, .methodLinkNest RX0 27 yX6_init RX11, .methodLinkNest RX0 28 yX5_init RX11, .methodLinkNest RX10 11 yX6_init RX11, .methodLinkNest RX7 11 yX9_init RX11]
def z_okC (X : z_X) : Prop := (∀ w ∈ z_nct, va_Nw w X.2.1) ∧ va_AO RX6 X.2.1 ∧ va_AO RX5 X.2.1 ∧ va_AO RX0 X.2.1
def z_UN (X : z_X) (g : z_Gr) (t : Nat) (M : z_Mem) (U : State) : Prop := X.2.1.WarmedH U.vm ∧ z_fr X g t M ∧ z_H X (z_sh X g) M U.heap ∧ U.heap.size = z_o X + t
def z_QN (X : z_X) (g : z_Gr) (t : Nat) (M : z_Mem) : Array Value → State → Outcome → State → Prop := fun _ st o u => st.heap.size ≤ u.heap.size ∧ o = .returned none ∧ z_fr X g t M ∧ z_H X (z_sh X g) M u.heap ∧ u.heap.size = z_o X + t
/-- a constructor's contract: the graph, the heap's size, the memory before and after -/
def z_CtN (X : z_X) (y : MethodName) (cc : ByteArray) (nL : Nat) (rm : Room) (av : List Value) (g : z_Gr) (t : Nat) (M : z_Mem) (g' : z_Gr) (t' : Nat) (M' : z_Mem) : Prop :=
  Met X.1 y (z_ws y cc nL none) rm (va_Pc av (z_UN X g t M)) (z_QN X g' t' M') rm.cells rm.slots (z_A X)
abbrev z_WN (X : z_X) (F : z_F) (Q : State → Prop) (H : Heap) (locs : List Loc) (k n : Nat) (g : JFrame) : Prop :=
  W F.1 X.1 F.2.1 F.2.2.1 F.2.2.2.1 F.2.2.2.2.1 F.2.2.2.2.2.1 F.2.2.2.2.2.2.1 F.2.2.2.2.2.2.2.1 F.2.2.2.2.2.2.2.2 H locs k n Q g
def z_N (X : z_X) (F : z_F) (nL : Nat) (Q : State → Prop) (k n pc : Nat) (loc : List (Nat × Value)) (st : List Value) (g : z_Gr) (t : Nat) (M : z_Mem) : Prop :=
  z_fr X g t M → F.2.2.2.1.heap.size + k = z_o X + t → ∀ (H : Heap) (locs : List Loc) (ls : Array Slot), z_H X (z_sh X g) M H → H.size = z_o X + t → (∀ q ∈ locs, z_o X ≤ q.base) → lv_has ls nL loc → z_WN X F Q H locs k n (F0 F.2.2.2.2.1 pc ls st)
def z_okT (ty : FieldType) : Bool := match ty with
  | .float => false
  | .double => false
  | _ => true
theorem z_dv {ty : FieldType} (h : z_okT ty = true) {M : z_Mem} {Rf : Nat → Nat → Option Nat} {a k : Nat} (h1 : M.1 a = z_zI) (h2 : M.2 a = z_zL) (h3 : Rf a k = none) : defaultValue ty = z_fv ty M Rf a k := by
  cases ty <;> first
    | (simp only [z_fv, h1, h2, h3]; rfl)
    | cases h
section ZRN
variable {X : z_X} {F : z_F} {own : String} {cc : ByteArray} {nL : Nat} {ret : Option FieldType} {Q : State → Prop} {k n pc : Nat} {loc loc' : List (Nat × Value)} {st : List Value} {g : z_Gr} {t : Nat} {M : z_Mem} {rm0 : Room}
theorem zn_pc {pc' : Nat} (h : pc = pc') (kk : z_N X F nL Q k n pc' loc st g t M) : z_N X F nL Q k n pc loc st g t M := h ▸ kk
theorem zn_aload_n (B : z_B X F own cc nL ret) {q : Fin 4} {x : Nat} {i : Nat} (d : decode cc pc = .ok (.aload_n q, 1)) (r : Nat) (hi : (q : Nat) = i) (hl : loc[r]? = some (i, .ref x)) (kk : z_N X F nL Q k n (pc + 1) loc (.ref x :: st) g t M) : z_N X F nL Q k n pc loc st g t M :=
  fun hf hk H locs ls hH hs hq hL => lv_aload_n B.1 B.2.1 d hi (lv_at hL r hl) (kk hf hk H locs ls hH hs hq hL)
theorem zn_iload_n (B : z_B X F own cc nL ret) {q : Fin 4} {x : Int32} {i : Nat} (d : decode cc pc = .ok (.iload_n q, 1)) (r : Nat) (hi : (q : Nat) = i) (hl : loc[r]? = some (i, .int x)) (kk : z_N X F nL Q k n (pc + 1) loc (.int x :: st) g t M) : z_N X F nL Q k n pc loc st g t M :=
  fun hf hk H locs ls hH hs hq hL => lv_iload_n B.1 B.2.1 d hi (lv_at hL r hl) (kk hf hk H locs ls hH hs hq hL)
theorem zn_istore_n (B : z_B X F own cc nL ret) {q : Fin 4} {i : Nat} {x : Int32} (d : decode cc pc = .ok (.istore_n q, 1)) (hi : (q : Nat) = i) (hn : i < nL) (hl : (i, Value.int x) :: loc.filter (fun q => !(q.1 == i) && !(q.1 + 1 == i && q.2.category == 2)) = loc') (kk : z_N X F nL Q k n (pc + 1) loc' st g t M) : z_N X F nL Q k n pc loc (.int x :: st) g t M :=
  fun hf hk H locs ls hH hs hq hL => lv_istore_n B.1 B.2.1 d hi hL hn hl (fun ls' hL' => kk hf hk H locs ls' hH hs hq hL')
theorem zn_iinc (B : z_B X F own cc nL ret) {i : Nat} {w : Int} {x y : Int32} (d : decode cc pc = .ok (.iinc i w, 3)) (r : Nat) (hl : loc[r]? = some (i, .int x)) (hw : x + Int32.ofInt w = y) (hn : i < nL) (hl2 : (i, Value.int y) :: loc.filter (fun q => !(q.1 == i) && !(q.1 + 1 == i && q.2.category == 2)) = loc') (kk : z_N X F nL Q k n (pc + 3) loc' st g t M) : z_N X F nL Q k n pc loc st g t M :=
  fun hf hk H locs ls hH hs hq hL => lv_iinc (v := y) B.1 B.2.1 d hL hl hw hn hl2 (fun ls' hL' => kk hf hk H locs ls' hH hs hq hL')
theorem zn_iconst (B : z_B X F own cc nL ret) {w : Int} {v : Int32} (d : decode cc pc = .ok (.iconst w, 1)) (hv : Int32.ofInt w = v) (kk : z_N X F nL Q k n (pc + 1) loc (.int v :: st) g t M) : z_N X F nL Q k n pc loc st g t M :=
  fun hf hk H locs ls hH hs hq hL => lv_iconst B.1 B.2.1 d hv (kk hf hk H locs ls hH hs hq hL)
theorem zn_bipush (B : z_B X F own cc nL ret) {w : Int} {v : Int32} (d : decode cc pc = .ok (.bipush w, 2)) (hv : (Int8.ofInt w).toInt32 = v) (kk : z_N X F nL Q k n (pc + 2) loc (.int v :: st) g t M) : z_N X F nL Q k n pc loc st g t M :=
  fun hf hk H locs ls hH hs hq hL => lv_bipush B.1 B.2.1 d hv (kk hf hk H locs ls hH hs hq hL)
theorem zn_sipush (B : z_B X F own cc nL ret) {w : Int} {v : Int32} (d : decode cc pc = .ok (.sipush w, 3)) (hv : (Int16.ofInt w).toInt32 = v) (kk : z_N X F nL Q k n (pc + 3) loc (.int v :: st) g t M) : z_N X F nL Q k n pc loc st g t M :=
  fun hf hk H locs ls hH hs hq hL => lv_sipush B.1 B.2.1 d hv (kk hf hk H locs ls hH hs hq hL)
theorem zn_dup (B : z_B X F own cc nL ret) {v : Value} (d : decode cc pc = .ok (.dup, 1)) (hv : v.category = 1) (kk : z_N X F nL Q k n (pc + 1) loc (v :: v :: st) g t M) : z_N X F nL Q k n pc loc (v :: st) g t M :=
  fun hf hk H locs ls hH hs hq hL => lv_dup B.1 B.2.1 d hv (kk hf hk H locs ls hH hs hq hL)
theorem zn_goto (B : z_B X F own cc nL ret) {off : Int} {tgt : Nat} (d : decode cc pc = .ok (.goto off, 3)) (ht : (pc : Int) + off = (tgt : Int)) (kk : z_N X F nL Q k n tgt loc st g t M) : z_N X F nL Q k n pc loc st g t M :=
  fun hf hk H locs ls hH hs hq hL => lv_goto B.1 B.2.1 d ht (kk hf hk H locs ls hH hs hq hL)
theorem zn_icmp_ge (B : z_B X F own cc nL ret) {x y : Int32} {off : Int} {tgt : Nat} (d : decode cc pc = .ok (.if_icmp .ge off, 3)) (ht : (pc : Int) + off = (tgt : Int)) (k1 : y ≤ x → z_N X F nL Q k n tgt loc st g t M) (k2 : ¬ (y ≤ x) → z_N X F nL Q k n (pc + 3) loc st g t M) : z_N X F nL Q k n pc loc (.int y :: .int x :: st) g t M :=
  fun hf hk H locs ls hH hs hq hL => lv_icmp_ge B.1 B.2.1 d ht (fun h => k1 h hf hk H locs ls hH hs hq hL) (fun h => k2 h hf hk H locs ls hH hs hq hL)
theorem zn_oinit (B : z_B X F own cc nL ret) (hR : F.2.2.1 = rm0) {ix x : Nat} (hlk : Cond.methodLink own ix objectInit ∈ z_tbl) (d : decode cc pc = .ok (.invokespecial ix, 3)) (h1 : 1 ≤ rm0.frames) (h2 : (st.map fun v => v.category).sum + 12 ≤ rm0.locals) (hin : Cond.instanceMethod objectInit ∈ z_tbl) (hco : Cond.code objectInit ⟨#[0xb1]⟩ 1 none ∈ z_tbl) (kk : z_N X F nL Q k n (pc + 3) loc st g t M) : z_N X F nL Q k n pc loc (.ref x :: st) g t M :=
  fun hf hk H locs ls hH hs hq hL => W.objInit B.1 B.2.1 B.2.2.2.2.1 (B.2.2.2.2.2.1 _ hlk) (B.2.2.2.2.2.1 _ hin) (B.2.2.2.2.2.1 _ hco) rfl (by rw [B.2.2.1]; exact hL.1) rfl d (by rw [hR]; exact h1) (by rw [hR]; show 0 + (st.map fun v => v.category).sum + 12 ≤ _; rw [Nat.zero_add]; exact h2) (kk hf hk H locs ls hH hs hq hL)
theorem zn_new (B : z_B X F own cc nL ret) (hR : F.2.2.1 = rm0) {ci N : Nat} {C : String} {T : u_T} (hc : z_cl ci C T N) {ix : Nat} (hlk : Cond.classLink own ix C ∈ z_tbl) (hinst : Cond.instantiable C N ∈ z_tbl) (hini : Cond.initialized C ∈ z_tbl) (h1 : k + 1 ≤ rm0.cells) (h2 : n + N ≤ rm0.slots) (hT : ∀ j, j < N → z_okT (z_ty ci j) = true) (d : decode cc pc = .ok (.new ix, 3))
    (kk : z_N X F nL Q (k + 1) (n + N) (pc + 3) loc (.ref (z_o X + t) :: st) (gN g t (.inl ci)) (t + 1) M) : z_N X F nL Q k n pc loc st g t M := by
  intro hf hk H locs ls hH hs hq hL
  have hKn := B.K.1 ci _ hc.1
  refine W.newcK B.1 B.2.1 B.2.2.2.2.1 (B.2.2.2.2.2.1 _ hlk) (B.2.2.2.2.2.1 _ hinst) (B.2.2.2.2.2.1 _ hini) rfl d (by rw [hR]; exact h1) (by rw [hR]; exact h2) hKn.2.1 rfl fun H1 kC hkC e1 z1 o1 => ?_
  rw [hs] at e1 z1
  refine W.eq (g2 := F0 F.2.2.2.2.1 (pc + 3) ls (.ref (z_o X + t) :: st)) (by rw [← hs]) ?_
  refine kk hf.new (by omega) H1 locs ls (hH.born o1 (by omega) (fun a ha => z_shN1 (by omega)) (fun a _ => rfl) (fun sh hsh => ?_)) (by omega) hq hL
  rw [hs, z_sh1] at hsh
  cases gN_n.symm.trans hsh
  rw [hs]
  obtain ⟨-, f2, f3, f4⟩ := hf t (Nat.le_refl _)
  exact ⟨_, hc.1, (u_born (z_ty ci) B.2.2.2.2.2.1 hc.2.1 hKn hkC e1 hc.2.2.1).to (fun j hj => z_dv (hT j hj) f3 f4 (by rw [z_sh2]; show (g.2 t j).map _ = _; rw [f2]; rfl))⟩
theorem zn_newI (B : z_B X F own cc nL ret) (hR : F.2.2.1 = rm0) {w : Int32} {N : Nat} (hac : Cond.arrayClass .int ∈ z_tbl) (hN : w.toNatClampNeg = N) (hw : ¬ w < 0) (hb : N * 4 ≤ 536870912) (h1 : k + 1 ≤ rm0.cells) (h2 : n + N ≤ rm0.slots) (d : decode cc pc = .ok (.newarray .int, 2))
    (kk : z_N X F nL Q (k + 1) (n + N) (pc + 2) loc (.ref (z_o X + t) :: st) (gN g t (.inr (0, N))) (t + 1) M) : z_N X F nL Q k n pc loc (.int w :: st) g t M := by
  intro hf hk H locs ls hH hs hq hL
  refine va_newaK (atype := .int) B.1 B.2.1 (B.2.2.2.2.2.1 (Cond.arrayClass .int) hac) rfl d rfl hw hN hb (by rw [hR]; exact h1) (by rw [hR]; exact h2) hs fun H1 cA e1 z1 o1 hAr hNm => ?_
  have hA := (B.K.2 0 _ (z_tys_at (kd := 0) (by omega))).2
  have e : cA = X.2.2.2.1 0 := Option.some.inj (hNm.symm.trans hA)
  subst e
  refine kk hf.new (by omega) H1 locs ls (hH.born (fun q hq => o1 q (by omega)) (by omega) (fun a ha => z_shN1 (by omega)) (fun a _ => rfl) (fun sh hsh => ?_)) (by omega) hq hL
  rw [hs, z_sh1] at hsh
  cases gN_n.symm.trans hsh
  obtain ⟨-, -, f3, -⟩ := hf t (Nat.le_refl _)
  show H1[H.size]? = some (vp_cell _ (N, .inl (M.1 H.size)))
  rw [hs, f3]
  exact e1
theorem zn_newB (B : z_B X F own cc nL ret) (hR : F.2.2.1 = rm0) {w : Int32} {N : Nat} (hac : Cond.arrayClass .byte ∈ z_tbl) (hN : w.toNatClampNeg = N) (hw : ¬ w < 0) (hb : N * 1 ≤ 536870912) (h1 : k + 1 ≤ rm0.cells) (h2 : n + N ≤ rm0.slots) (d : decode cc pc = .ok (.newarray .byte, 2))
    (kk : z_N X F nL Q (k + 1) (n + N) (pc + 2) loc (.ref (z_o X + t) :: st) (gN g t (.inr (1, N))) (t + 1) M) : z_N X F nL Q k n pc loc (.int w :: st) g t M := by
  intro hf hk H locs ls hH hs hq hL
  refine va_newaK (atype := .byte) B.1 B.2.1 (B.2.2.2.2.2.1 (Cond.arrayClass .byte) hac) rfl d rfl hw hN hb (by rw [hR]; exact h1) (by rw [hR]; exact h2) hs fun H1 cA e1 z1 o1 hAr hNm => ?_
  have hA := (B.K.2 1 _ (z_tys_at (kd := 1) (by omega))).2
  have e : cA = X.2.2.2.1 1 := Option.some.inj (hNm.symm.trans hA)
  subst e
  refine kk hf.new (by omega) H1 locs ls (hH.born (fun q hq => o1 q (by omega)) (by omega) (fun a ha => z_shN1 (by omega)) (fun a _ => rfl) (fun sh hsh => ?_)) (by omega) hq hL
  rw [hs, z_sh1] at hsh
  cases gN_n.symm.trans hsh
  obtain ⟨-, -, f3, -⟩ := hf t (Nat.le_refl _)
  show H1[H.size]? = some (vp_cell _ (N, .inl (M.1 H.size)))
  rw [hs, f3]
  exact e1
theorem zn_anew (B : z_B X F own cc nL ret) (hR : F.2.2.1 = rm0) (kd : Nat) {C : String} (h3 : 3 ≤ kd) (h6 : kd < 6) (hkt : z_kt kd = .object C) {ix : Nat} (hlk : Cond.classLink own ix C ∈ z_tbl) (hao : va_AO C X.2.1) {w : Int32} {N : Nat} (hN : w.toNatClampNeg = N) (hw : ¬ w < 0) (hb : N * 4 ≤ 536870912) (h1 : k + 1 ≤ rm0.cells) (h2 : n + N ≤ rm0.slots) (d : decode cc pc = .ok (.anewarray ix, 3))
    (kk : z_N X F nL Q (k + 1) (n + N) (pc + 3) loc (.ref (z_o X + t) :: st) (gN g t (.inr (kd, N))) (t + 1) M) : z_N X F nL Q k n pc loc (.int w :: st) g t M := by
  intro hf hk H locs ls hH hs hq hL
  subst hN
  have ht := z_tys_at (cA := X.2.2.2.1) h6
  rw [hkt] at ht
  obtain ⟨-, kA', comp', -, -, -, g4⟩ := B.K.2 kd _ ht
  refine W.anew B.1 B.2.1 B.2.2.2.2.1 (B.2.2.2.2.2.1 _ hlk) (va_AO.use (hao.moved B.2.2.2.2.2.2.2.2.1.alike)) rfl d rfl hw hb (by rw [hR]; exact h1) (by rw [hR]; exact h2) fun cA kA comp f1 f2 f3 f4 => ?_
  have e : cA = X.2.2.2.1 kd := Option.some.inj (f1.symm.trans g4)
  subst e
  generalize hH1 : H.push ({ cls := X.2.2.2.1 kd, slots := Array.replicate w.toNatClampNeg .null, vm := .none } : Cell) = H1
  have z1 : H1.size = H.size + 1 := by rw [← hH1, Array.size_push]
  have e1 : H1[H.size]? = some (arrV (X.2.2.2.1 kd) w.toNatClampNeg (fun _ => .null)) := by rw [← hH1, Array.getElem?_push_size, ← arrV_new]
  have o1 : ∀ q : Nat, q < H.size → H1[q]? = H[q]? := fun q hq => by rw [← hH1, Array.getElem?_push, if_neg (Nat.ne_of_lt hq)]
  refine W.eq (g2 := F0 F.2.2.2.2.1 (pc + 3) ls (.ref (z_o X + t) :: st)) (by rw [← hs]) ?_
  refine kk hf.new (by omega) H1 locs ls (hH.born o1 (by omega) (fun a ha => z_shN1 (by omega)) (fun a _ => rfl) (fun sh hsh => ?_)) (by omega) hq hL
  rw [hs, z_sh1] at hsh
  cases gN_n.symm.trans hsh
  obtain ⟨-, f5, -⟩ := hf t (Nat.le_refl _)
  have ez : z_av kd M (z_sh X (gN g t (.inr (kd, w.toNatClampNeg)))).2 H.size = .inr (.inr (.inr (.inr (fun _ => none)))) := by
    have e9 : (z_sh X (gN g t (.inr (kd, w.toNatClampNeg)))).2 H.size = fun _ => none := by
      funext j
      rw [hs, z_sh2]
      show (g.2 t j).map _ = _
      rw [f5]
      rfl
    rw [← e9]
    rcases (show kd = 3 ∨ kd = 4 ∨ kd = 5 by omega) with rfl | rfl | rfl <;> rfl
  show H1[H.size]? = some (vp_cell _ (w.toNatClampNeg, z_av kd M _ H.size))
  rw [ez]
  exact e1
/-- a field of a number -/
theorem zn_puti (B : z_B X F own cc nL ret) {ci N : Nat} {C : String} {T : u_T} (hc : z_cl ci C T N) {r : Nat} (hg : g.1 r = some (.inl ci)) (hr : r < t) (f : Nat) (hf : f < N) {ix : Nat} (hlk : Cond.fieldLink own ix (T f).1 (T f).2.1 (T f).2.2.1 ∈ z_tbl) (hfin : (T f).2.2.2 = false) (hI : z_isI (z_ty ci f) = true) {x : Int32} (hn : narrow (z_ty ci f) (.int x) = .int x) (hft : fits (z_ty ci f) (.int x) = true) (d : decode cc pc = .ok (.putfield ix, 3))
    (kk : z_N X F nL Q k n (pc + 3) loc st g t (z_wI M (z_o X + r) f x)) : z_N X F nL Q k n pc loc (.int x :: .ref (z_o X + r) :: st) g t M := by
  intro hfr hk H locs ls hH hs hq hL
  have hg' : (z_sh X g).1 (z_o X + r) = some (.inl ci) := (z_sh1 r).trans hg
  have hap := va_apart (own := own) B.2.2.2.2.2.1 hc.2.1 (z_ty ci) hc.2.2.1 hc.2.2.2 B.K hc.1
  obtain ⟨ha, rr, hr1, cell, q1, q2, q3, q4⟩ := hH.2 _ _ hg'
  have hrr : rr = (C, T, N) := Option.some.inj (hr1.symm.trans hc.1)
  subst hrr
  obtain ⟨hS, hfc, kC, hkC, hkind⟩ := B.K.1 ci _ hc.1
  obtain ⟨cf, kf, fi, fd, hi, hsl⟩ := hS f hf
  have hlay := B.2.2.2.2.2.1 _ (hc.2.1 _ (u_in_lay hf))
  unfold u_lay at hlay
  rw [if_neg (by rw [hfin]; decide)] at hlay
  have hst := (u_facts hfc hkC (u_lays B.2.2.2.2.2.1 hc.2.1 hf) hi).1
  have h6 := u_store hfc hkC hkind hlay hi (hc.2.2.1 f hf) hn hft
  refine W.putK B.1 B.2.1 (f := fd) ⟨B.2.2.2.2.1, B.2.2.2.2.2.1 _ hlk, ⟨_, _, _, hi⟩, hst⟩ (by rw [q2]; exact h6) q1 q3 (by rw [hsl]; exact k2_hasslot (q4 f hf)) rfl rfl d fun H' e1 e2 e3 => ?_
  rw [hsl] at e1
  refine kk (hfr.int hr) hk H' _ ls (hH.put hg' e2 e3 (fun b hb => z_wI_off hb) (fun b _ => rfl) ⟨_, hc.1, _, e1, q2, q3, fun j hj => ?_⟩) (by rw [e2]; exact hs) (z_locs hq ha) hL
  rw [t_set q4 hap hf (.int x) j hj]
  by_cases hjf : j = f
  · subst hjf
    simp only [updV, if_true]
    rw [z_fv_I hI]
    simp [z_wI]
  · simp only [updV, if_neg hjf]
    exact congrArg some (z_fv_eq (M := M) (M' := z_wI M (z_o X + r) f x) (a := z_o X + r) (k := j) (by simp [z_wI, hjf]) rfl).symm
/-- a field of a reference -/
theorem zn_putr (B : z_B X F own cc nL ret) {ci N : Nat} {C : String} {T : u_T} (hc : z_cl ci C T N) {r b : Nat} (hg : g.1 r = some (.inl ci)) (hr : r < t) (f : Nat) (hf : f < N) {ix : Nat} (hlk : Cond.fieldLink own ix (T f).1 (T f).2.1 (T f).2.2.1 ∈ z_tbl) (hfin : (T f).2.2.2 = false) (hI : z_isR (z_ty ci f) = true) (hn : ∀ x : Nat, narrow (z_ty ci f) (.ref x) = .ref x) (hft : ∀ x : Nat, fits (z_ty ci f) (.ref x) = true) (d : decode cc pc = .ok (.putfield ix, 3))
    (kk : z_N X F nL Q k n (pc + 3) loc st (gP g r f b) t M) : z_N X F nL Q k n pc loc (.ref (z_o X + b) :: .ref (z_o X + r) :: st) g t M := by
  intro hfr hk H locs ls hH hs hq hL
  have hg' : (z_sh X g).1 (z_o X + r) = some (.inl ci) := (z_sh1 r).trans hg
  have hap := va_apart (own := own) B.2.2.2.2.2.1 hc.2.1 (z_ty ci) hc.2.2.1 hc.2.2.2 B.K hc.1
  obtain ⟨ha, rr, hr1, cell, q1, q2, q3, q4⟩ := hH.2 _ _ hg'
  have hrr : rr = (C, T, N) := Option.some.inj (hr1.symm.trans hc.1)
  subst hrr
  obtain ⟨hS, hfc, kC, hkC, hkind⟩ := B.K.1 ci _ hc.1
  obtain ⟨cf, kf, fi, fd, hi, hsl⟩ := hS f hf
  have hlay := B.2.2.2.2.2.1 _ (hc.2.1 _ (u_in_lay hf))
  unfold u_lay at hlay
  rw [if_neg (by rw [hfin]; decide)] at hlay
  have hst := (u_facts hfc hkC (u_lays B.2.2.2.2.2.1 hc.2.1 hf) hi).1
  have h6 := u_store hfc hkC hkind hlay hi (hc.2.2.1 f hf) (hn (z_o X + b)) (hft (z_o X + b))
  refine W.putK B.1 B.2.1 (f := fd) ⟨B.2.2.2.2.1, B.2.2.2.2.2.1 _ hlk, ⟨_, _, _, hi⟩, hst⟩ (by rw [q2]; exact h6) q1 q3 (by rw [hsl]; exact k2_hasslot (q4 f hf)) rfl rfl d fun H' e1 e2 e3 => ?_
  rw [hsl] at e1
  refine kk (hfr.ref hr) hk H' _ ls (hH.ref hg' e2 e3 rfl (fun c hc' => z_shP2 hc') ⟨_, hc.1, _, e1, q2, q3, fun j hj => ?_⟩) (by rw [e2]; exact hs) (z_locs hq ha) hL
  rw [t_set q4 hap hf (.ref (z_o X + b)) j hj]
  by_cases hjf : j = f
  · subst hjf
    simp only [updV, if_true]
    rw [z_fv_R hI, z_shP3, if_pos rfl]
    rfl
  · simp only [updV, if_neg hjf]
    have e9 : (z_sh X (gP g r f b)).2 (z_o X + r) j = (z_sh X g).2 (z_o X + r) j := by rw [z_shP3, if_neg hjf]
    show some (z_fv (z_ty ci j) M (z_sh X g).2 (z_o X + r) j) = some (z_fv (z_ty ci j) M (z_sh X (gP g r f b)).2 (z_o X + r) j)
    unfold z_fv
    rw [e9]
/-- .. that is final, in its class's constructor -/
theorem zn_putf (B : z_B X F own cc nL ret) {ci N : Nat} {C : String} {T : u_T} (hc : z_cl ci C T N) {r b : Nat} (hg : g.1 r = some (.inl ci)) (hr : r < t) (f : Nat) (hf : f < N) {ix : Nat} (hlk : Cond.fieldLink own ix (T f).1 (T f).2.1 (T f).2.2.1 ∈ z_tbl) (hfin : (T f).2.2.2 = true) (hdecl : (T f).1 = own) (hin2 : F.2.2.2.2.2.2.2.1.name = "<init>") (hI : z_isR (z_ty ci f) = true) (hn : ∀ x : Nat, narrow (z_ty ci f) (.ref x) = .ref x) (hft : ∀ x : Nat, fits (z_ty ci f) (.ref x) = true) (d : decode cc pc = .ok (.putfield ix, 3))
    (kk : z_N X F nL Q k n (pc + 3) loc st (gP g r f b) t M) : z_N X F nL Q k n pc loc (.ref (z_o X + b) :: .ref (z_o X + r) :: st) g t M := by
  intro hfr hk H locs ls hH hs hq hL
  have hg' : (z_sh X g).1 (z_o X + r) = some (.inl ci) := (z_sh1 r).trans hg
  have hap := va_apart (own := own) B.2.2.2.2.2.1 hc.2.1 (z_ty ci) hc.2.2.1 hc.2.2.2 B.K hc.1
  obtain ⟨ha, rr, hr1, cell, q1, q2, q3, q4⟩ := hH.2 _ _ hg'
  have hrr : rr = (C, T, N) := Option.some.inj (hr1.symm.trans hc.1)
  subst hrr
  obtain ⟨hS, hfc, kC, hkC, hkind⟩ := B.K.1 ci _ hc.1
  obtain ⟨cf, kf, fi, fd, hi, hsl⟩ := hS f hf
  have hlay := B.2.2.2.2.2.1 _ (hc.2.1 _ (u_in_lay hf))
  unfold u_lay at hlay
  rw [if_pos hfin] at hlay
  have hst := (u_facts hfc hkC (u_lays B.2.2.2.2.2.1 hc.2.1 hf) hi).1
  have hcf : F.2.2.2.2.1.cls = cf := by
    obtain ⟨_, _, c', _, _, _, -, -, hf', -, -, -, hown2, -⟩ := Cond.laysFinal_spec hlay
    have e1 : c' = cf := by have := hi.symm.trans hf'; simp at this; exact this.1.symm
    rw [hdecl] at hown2
    rw [← e1]
    exact Option.some.inj (B.2.2.2.2.1.symm.trans hown2)
  have h6 := u_fits hfc hkC hkind (Or.inr hlay) hi (hc.2.2.1 f hf) (hn (z_o X + b)) (hft (z_o X + b))
  refine W.putFinK B.1 B.2.1 B.2.2.2.2.1 (B.2.2.2.2.2.1 _ hlk) hi hst hcf hin2 (by rw [q2]; exact h6) q1 q3 (by rw [hsl]; exact k2_hasslot (q4 f hf)) rfl rfl d fun H' e1 e2 e3 => ?_
  rw [hsl] at e1
  refine kk (hfr.ref hr) hk H' _ ls (hH.ref hg' e2 e3 rfl (fun c hc' => z_shP2 hc') ⟨_, hc.1, _, e1, q2, q3, fun j hj => ?_⟩) (by rw [e2]; exact hs) (z_locs hq ha) hL
  rw [t_set q4 hap hf (.ref (z_o X + b)) j hj]
  by_cases hjf : j = f
  · subst hjf
    simp only [updV, if_true]
    rw [z_fv_R hI, z_shP3, if_pos rfl]
    rfl
  · simp only [updV, if_neg hjf]
    have e9 : (z_sh X (gP g r f b)).2 (z_o X + r) j = (z_sh X g).2 (z_o X + r) j := by rw [z_shP3, if_neg hjf]
    show some (z_fv (z_ty ci j) M (z_sh X g).2 (z_o X + r) j) = some (z_fv (z_ty ci j) M (z_sh X (gP g r f b)).2 (z_o X + r) j)
    unfold z_fv
    rw [e9]
/-- a reference is read -/
theorem zn_getr (B : z_B X F own cc nL ret) {ci N : Nat} {C : String} {T : u_T} (hc : z_cl ci C T N) {r b : Nat} (hg : g.1 r = some (.inl ci)) (f : Nat) (hf : f < N) {ix : Nat} (hlk : Cond.fieldLink own ix (T f).1 (T f).2.1 (T f).2.2.1 ∈ z_tbl) (hI : z_isR (z_ty ci f) = true) (hb : g.2 r f = some b) (d : decode cc pc = .ok (.getfield ix, 3)) (kk : z_N X F nL Q k n (pc + 3) loc (.ref (z_o X + b) :: st) g t M) : z_N X F nL Q k n pc loc (.ref (z_o X + r) :: st) g t M := by
  intro hfr hk H locs ls hH hs hq hL
  have hg' : (z_sh X g).1 (z_o X + r) = some (.inl ci) := (z_sh1 r).trans hg
  obtain ⟨rr, h1, cell, q1, q2, q3, q4⟩ := (hH.2 _ _ hg').2
  have hrr : rr = (C, T, N) := Option.some.inj (h1.symm.trans hc.1)
  subst hrr
  obtain ⟨hS, hfc, kC, hkC, hkind⟩ := B.K.1 ci _ hc.1
  obtain ⟨cf, kf, fi, fd, hi, hsl⟩ := hS f hf
  refine W.getf B.1 B.2.1 B.2.2.2.2.1 (B.2.2.2.2.2.1 _ hlk) hi (u_facts hfc hkC (u_lays B.2.2.2.2.2.1 hc.2.1 hf) hi).1 q1 (by rw [q3]; exact fun h => by cases h) (v := .ref (z_o X + b)) ?_ rfl rfl d (kk hfr hk H locs ls hH hs hq hL)
  rw [hsl, q4 f hf]
  show some (z_fv (z_ty ci f) M (z_sh X g).2 (z_o X + r) f) = _
  rw [z_fv_R hI, z_sh2, hb]
  rfl
/-- an element of a row of references is laid -/
theorem zn_aast (B : z_B X F own cc nL ret) {ci kd N r v : Nat} {C : String} {T : u_T} {NC : Nat} (hc : z_cl ci C T NC) (h3 : 3 ≤ kd) (h6 : kd < 6) (hkt : z_kt kd = .object C) (hg : g.1 r = some (.inr (kd, N))) (hr : r < t) (hv : g.1 v = some (.inl ci)) {i : Int32} {j : Nat} (hij : i.toNatClampNeg = j) (hi : ¬ i < 0) (hj : j < N) (d : decode cc pc = .ok (.aastore, 1))
    (kk : z_N X F nL Q k n (pc + 1) loc st (gP g r j v) t M) : z_N X F nL Q k n pc loc (.ref (z_o X + v) :: .int i :: .ref (z_o X + r) :: st) g t M := by
  intro hfr hk H locs ls hH hs hq hL
  subst hij
  have hg' : (z_sh X g).1 (z_o X + r) = some (.inr (kd, N)) := (z_sh1 r).trans hg
  have hv' : (z_sh X g).1 (z_o X + v) = some (.inl ci) := (z_sh1 v).trans hv
  obtain ⟨ha, hh⟩ := hH.2 _ _ hg'
  obtain ⟨rr, h1, cell, q1, q2, q3, q4⟩ := (hH.2 _ _ hv').2
  have hrr : rr = (C, T, NC) := Option.some.inj (h1.symm.trans hc.1)
  subst hrr
  have hcls := (B.K.1 ci _ hc.1).2
  have ht := z_tys_at (cA := X.2.2.2.1) h6
  rw [hkt] at ht
  obtain ⟨kA, comp, k1, k2, k3, -⟩ := (B.K.2 kd _ ht).2
  have hcomp : comp = X.2.2.1.1 ci := Option.some.inj (k3.symm.trans hcls.1)
  subst hcomp
  obtain ⟨kC, hkC, -⟩ := hcls.2
  have ez : ∀ (M0 : z_Mem) (Rf : Nat → Nat → Option Nat) (a : Nat), z_av kd M0 Rf a = .inr (.inr (.inr (.inr (Rf a)))) := fun M0 Rf a => by
    rcases (show kd = 3 ∨ kd = 4 ∨ kd = 5 by omega) with rfl | rfl | rfl <;> rfl
  have hh2 : H[z_o X + r]? = some (vp_cell (X.2.2.2.1 kd) (N, .inr (.inr (.inr (.inr ((z_sh X g).2 (z_o X + r))))))) := by
    rw [← ez M]
    exact hh
  refine W.aast B.1 B.2.1 hh2 (fun q h => by cases h) (fun h => by cases h) k1 k2 rfl hkC ⟨hi, by show _ < (arrV _ _ _).slots.size; rw [arrV_size]; exact hj⟩ q1 (fun q h => by rw [q3] at h; cases h) (by rw [q2]; exact hkC) (by rw [q2]; exact va_assign hcls) rfl rfl d fun H1 e z oq => ?_
  refine kk (hfr.ref hr) hk H1 _ ls (hH.ref hg' z oq rfl (fun c hc' => z_shP2 hc') ?_) (by rw [z]; exact hs) (z_locs hq ha) hL
  show H1[z_o X + r]? = some (vp_cell _ (N, z_av kd M _ (z_o X + r)))
  rw [ez, e, vp_cell_q, vp_cell_q, arrV_store]
  congr 2
  funext q
  rw [z_shP3]
  by_cases hq : q = i.toNatClampNeg
  · subst hq
    simp [updV, va_rf]
  · simp [updV, hq]
/-- a constructor is called -/
theorem zn_run {g' : z_Gr} {t' mc' ms' k' n' : Nat} {M' : z_Mem} {av : Array Value} {rest st0 : List Value} (hk' : k + mc' = k') (hn' : n + ms' = n') (ht : t' = t + mc')
    (hrun : z_fr X g t M → ∀ (H : Heap) (locs : List Loc) (ls : Array Slot), z_H X (z_sh X g) M H → H.size = z_o X + t → (∀ q ∈ locs, z_o X ≤ q.base) → lv_has ls nL loc → va_Run F.1 X.1 F.2.1 F.2.2.1 F.2.2.2.1 F.2.2.2.2.1 F.2.2.2.2.2.1 F.2.2.2.2.2.2.1 F.2.2.2.2.2.2.2.1 F.2.2.2.2.2.2.2.2 H locs k n mc' ms' (F0 F.2.2.2.2.1 pc ls st0) rest (z_QN X g' t' M' av) (z_A X))
    (kk : z_N X F nL Q k' n' (pc + 3) loc rest g' t' M') : z_N X F nL Q k n pc loc st0 g t M := by
  subst hk'; subst hn'
  intro hfr hk H locs ls hH hs hq hL T hT XX
  obtain ⟨v, st₀, u, T', L, e0, X', hL', e1, e2, ⟨hsz, ev, hfr', hH', hs'⟩, stp⟩ := hrun hfr H locs ls hH hs hq hL T hT XX
  cases ev
  obtain ⟨t2, a1, b1⟩ := kk hfr' (by omega) T'.heap (locs ++ L) ls (by rw [e1]; exact hH') (by rw [e1]; exact hs') (t_lL hq hL') hL T' rfl X'
  exact ⟨t2, stp t2 a1, b1⟩
/-- a method that keeps the graph and makes nothing -/
theorem zn_keep {ms' n' : Nat} {M1 : z_Mem} {av : Array Value} {rest st0 : List Value} (hn' : n + ms' = n')
    (hrun : z_Run X F nL k n pc loc st0 rest (z_sh X g) M 0 ms' av (fun o G' M' => G' = z_sh X g ∧ (o, M') = z_cvm M1))
    (kk : z_N X F nL Q k n' (pc + 3) loc rest g t (z_cut X t M1)) : z_N X F nL Q k n pc loc st0 g t M := by
  subst hn'
  intro hfr hk H locs ls hH hs hq hL T hT XX
  rcases hrun H locs ls hH (by omega) hq hL T hT XX with ⟨v, st₀, u, T', L, e0, X', hL', e1, e2, hQ, stp⟩ | ⟨q, st₀, u, T', L, E, ce, e0, X', hL', e1, e2, hQ, hce, hcv, hcl, stp⟩
  · obtain ⟨hsz, v', G', M9, ev, ⟨rfl, hcv'⟩, hH'⟩ := hQ
    cases ev
    cases hcv'
    have hsz2 := X'.heapSize
    rw [e0] at hsz
    rw [e1] at hsz2
    have hs' : u.heap.size = z_o X + t := by omega
    obtain ⟨t2, a1, b1⟩ := kk hfr.cut hk T'.heap (locs ++ L) ls (by rw [e1]; exact z_H.cut hfr hH') (by rw [e1]; exact hs') (t_lL hq hL') hL T' rfl X'
    exact ⟨t2, stp t2 a1, b1⟩
  · obtain ⟨hsz, ke, G', M9, eE, ⟨rfl, hcv'⟩, hH'⟩ := hQ
    cases hcv'
theorem zn_vret {cc : ByteArray} {g' : z_Gr} {t' mc ms : Nat} {M' : z_Mem} (B : z_B X F own cc nL ret) (d : decode cc pc = .ok (.return_, 1)) (hr : ret = none) (hk : k ≤ mc) (hs : n ≤ ms) (e1 : g = g') (e2 : t = t') (e3 : M = M') : z_N X F nL (MQ F.2.2.2.2.2.2.1 (z_QN X g' t' M') F.2.2.2.2.2.1 F.2.2.2.1 mc ms (z_A X)) k n pc loc [] g t M := by
  subst e1; subst e2; subst e3
  intro hfr hk' H locs ls hH hsz hq hL
  refine W.widen hk hs (W.vret B.1 B.2.1 (B.2.2.2.1.trans hr) (fun u hu hW => ?_) hq d B.2.2.2.2.2.2.1)
  exact ⟨by rw [hu]; omega, rfl, hfr, by rw [hu]; exact hH, by rw [hu]; exact hsz⟩
end ZRN
section ZRN2
variable {X : z_X} {F : z_F} {own : String} {cc : ByteArray} {nL : Nat} {ret : Option FieldType} {k n pc : Nat} {loc : List (Nat × Value)} {g : z_Gr} {t : Nat} {M : z_Mem} {rm0 : Room}
theorem z_blindN {av : List Value} : FrameBlind (va_Pc av (z_UN X g t M)) := fun _ _ _ _ h => h
theorem z_preN (B : z_B X F own cc nL ret) (hf : z_fr X g t M) {H : Heap} (hH : z_H X (z_sh X g) M H) (hs : H.size = z_o X + t) {av : List Value} : ∀ U : State, U.heap = H → F.2.2.2.1.WarmedH U.vm → va_Pc av (z_UN X g t M) av.toArray U :=
  fun U hU hW => ⟨rfl, State.WarmedH.trans B.2.2.2.2.2.2.2.2.1 hW, hf, by rw [hU]; exact hH, by rw [hU]; exact hs⟩
theorem zr_I (B : z_B X F own cc nL ret) (hR : F.2.2.1 = rm0) {y : MethodName} {cc' : ByteArray} {nL' ix b : Nat} (np : Nat) (hm : Cond.instanceMethod y ∈ z_tbl ∧ Cond.code y cc' nL' none ∈ z_tbl) (hini : Cond.initialized y.cls ∈ z_tbl) (hy1 : y.name = "<init>") (hd : y.cls ≠ "java/lang/invoke/MethodHandle" ∧ y.cls ≠ "java/lang/invoke/VarHandle" ∧ (parseMethodDescriptor y.desc).map (fun d => d.parameters.length) = some np) (hlk : Cond.methodLink own ix y ∈ z_tbl) (As : List Value) {rest st0 : List Value} (hlen : As.length = np) (hst : st0 = As.reverse ++ .ref b :: rest) (hcat : (rest.map fun v => v.category).sum ≤ 8) (d : decode cc pc = .ok (.invokespecial ix, 3)) {rm' : Room} {g' : z_Gr} {t' : Nat} {M' : z_Mem} (hct : z_CtN X y cc' nL' rm' (.ref b :: As) g t M g' t' M') (hr1 : rm'.frames + 1 ≤ rm0.frames ∧ 8 + (nL' + 11) + rm'.locals ≤ rm0.locals) (hr2 : k + rm'.cells ≤ rm0.cells ∧ n + rm'.slots ≤ rm0.slots) : z_fr X g t M → ∀ (H : Heap) (locs : List Loc) (ls : Array Slot), z_H X (z_sh X g) M H → H.size = z_o X + t → (∀ q ∈ locs, z_o X ≤ q.base) → lv_has ls nL loc → va_Run F.1 X.1 F.2.1 F.2.2.1 F.2.2.2.1 F.2.2.2.2.1 F.2.2.2.2.2.1 F.2.2.2.2.2.2.1 F.2.2.2.2.2.2.2.1 F.2.2.2.2.2.2.2.2 H locs k n rm'.cells rm'.slots (F0 F.2.2.2.2.1 pc ls st0) rest (z_QN X g' t' M' (Value.ref b :: As).toArray) (z_A X) := by
  intro hf H locs ls hH hs hq hL
  exact va_runI (own := own) (nL := nL) (Ts := z_tbl) ⟨B.1, B.2.1, B.2.2.1, B.2.2.2.2.1, B.2.2.2.2.2.1⟩ hct (cwI np B.2.2.2.2.2.1 (z_gws hm.2) rfl rfl rfl (B.2.2.2.2.2.1 _ hini) (B.2.2.2.2.2.1 _ hlk) (B.2.2.2.2.2.1 _ hm.1) hy1 hd (by rw [hR]; exact hr1)) ⟨z_blindN, z_preN B hf hH hs⟩ rfl hlen hL.1 hst (lv_room hcat) d (by rw [hR]; exact hr2)
theorem zr_IN (B : z_B X F own cc nL ret) (hC : z_okC X) (hR : F.2.2.1 = rm0) {y : MethodName} {cc' : ByteArray} {nL' ix b : Nat} {host : String} (np : Nat) (hm : Cond.instanceMethod y ∈ z_tbl ∧ Cond.code y cc' nL' none ∈ z_tbl) (hini : Cond.initialized y.cls ∈ z_tbl) (hy1 : y.name = "<init>") (hd : y.cls ≠ "java/lang/invoke/MethodHandle" ∧ y.cls ≠ "java/lang/invoke/VarHandle" ∧ (parseMethodDescriptor y.desc).map (fun d => d.parameters.length) = some np) (hlk : Cond.methodLinkNest own ix y host ∈ z_nct) (As : List Value) {rest st0 : List Value} (hlen : As.length = np) (hst : st0 = As.reverse ++ .ref b :: rest) (hcat : (rest.map fun v => v.category).sum ≤ 8) (d : decode cc pc = .ok (.invokespecial ix, 3)) {rm' : Room} {g' : z_Gr} {t' : Nat} {M' : z_Mem} (hct : z_CtN X y cc' nL' rm' (.ref b :: As) g t M g' t' M') (hr1 : rm'.frames + 1 ≤ rm0.frames ∧ 8 + (nL' + 11) + rm'.locals ≤ rm0.locals) (hr2 : k + rm'.cells ≤ rm0.cells ∧ n + rm'.slots ≤ rm0.slots) : z_fr X g t M → ∀ (H : Heap) (locs : List Loc) (ls : Array Slot), z_H X (z_sh X g) M H → H.size = z_o X + t → (∀ q ∈ locs, z_o X ≤ q.base) → lv_has ls nL loc → va_Run F.1 X.1 F.2.1 F.2.2.1 F.2.2.2.1 F.2.2.2.2.1 F.2.2.2.2.2.1 F.2.2.2.2.2.2.1 F.2.2.2.2.2.2.2.1 F.2.2.2.2.2.2.2.2 H locs k n rm'.cells rm'.slots (F0 F.2.2.2.2.1 pc ls st0) rest (z_QN X g' t' M' (Value.ref b :: As).toArray) (z_A X) := by
  intro hf H locs ls hH hs hq hL
  exact va_runIN (own := own) (nL := nL) (Ts := z_tbl) ⟨B.1, B.2.1, B.2.2.1, B.2.2.2.2.1, B.2.2.2.2.2.1⟩ hct ⟨va_cnB np B.2.2.2.2.2.1 (z_gws hm.2) rfl rfl rfl (va_Nw.warmM B.2.2.2.2.2.2.2.2.1 (hC.1 _ hlk)) (B.2.2.2.2.2.1 _ hini) hd (by rw [hR]; exact hr1), hy1, B.2.2.2.2.2.1 _ hm.1⟩ ⟨z_blindN, z_preN B hf hH hs⟩ rfl hlen hL.1 hst (lv_room hcat) d (by rw [hR]; exact hr2)
end ZRN2
theorem z_enterN {X : z_X} (hX : z_ok X) {y : MethodName} {cc : ByteArray} {nL : Nat} {rm : Room} {av : List Value} {g g' : z_Gr} {t t' : Nat} {M M' : z_Mem} (hy : plainName y.cls = true) (hy1 : y.name = "<init>") (hlen : (lg_sl av).length ≤ nL)
    (body : ∀ F : z_F, z_B X F y.cls cc nL none → F.2.2.1 = rm → F.2.2.2.2.2.2.2.1.name = "<init>" → z_N X F nL (MQ F.2.2.2.2.2.2.1 (z_QN X g' t' M') F.2.2.2.2.2.1 F.2.2.2.1 rm.cells rm.slots (z_A X)) 0 0 0 (lv_args 0 av) [] g t M) : z_CtN X y cc nL rm av g t M g' t' M' := by
  refine Met.ofW (cc := cc) (maxL := nL) (ret := none) hy rfl ?_
  intro p e s m args below meth c s₁ B hml hv
  obtain ⟨rfl, hW, hf, hH, hs⟩ := hv
  have hts := atoms_spec (ws := z_ws y cc nL none) B.pre
  rw [lg_entry_eq]
  refine body (p, e, _, s, m, _, below, meth, c) ⟨B.exec, B.bytes, hml, B.returns, findClass_of_methodNamed B.named, fun w hw => hts w (List.mem_cons_of_mem _ hw), B.notSynchronized, ?_, hW, hH.1, hX⟩ rfl ((name_of_methodNamed B.named B.method).1.trans hy1) hf hs s.heap [] _ hH hs (fun q h => by cases h) (lv_entry av hlen)
  refine Or.inr ?_
  obtain ⟨meth9, c9, h1, h2, -, -, -, -, h7, -⟩ := Cond.code_spec B.named (hts _ List.mem_cons_self)
  cases Option.some.inj (h1.symm.trans B.method)
  cases Option.some.inj (h2.symm.trans (Stand.of_body B).code)
  intro x hx
  rw [Array.isEmpty_iff.mp h7] at hx
  cases hx
