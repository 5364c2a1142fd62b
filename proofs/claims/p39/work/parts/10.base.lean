/-! ===== the lite world: shapes, references, numbers, by address ===== -/
abbrev z_Mem : Type := (Nat → Nat → Int32) × (Nat → Nat → Int64)
abbrev z_Sh : Type := Nat ⊕ (Nat × Nat)
abbrev z_Gr : Type := (Nat → Option z_Sh) × (Nat → Nat → Option Nat)
/-- launch, the law's start state, classes and slots, array classes, the static arrays' and the string's addresses -/
abbrev z_X : Type := Launch × State × va_G × (Nat → ClassId) × (Nat → Nat)
abbrev z_F : Type := Program × Env × Room × State × MethodId × Array Value × List Frame × Method × Code
abbrev z_o (X : z_X) : Nat := X.2.1.heap.size
def z_wI (M : z_Mem) (a k : Nat) (v : Int32) : z_Mem := (fun b j => if b = a ∧ j = k then v else M.1 b j, M.2)
def z_wL (M : z_Mem) (a k : Nat) (v : Int64) : z_Mem := (M.1, fun b j => if b = a ∧ j = k then v else M.2 b j)
def z_kt (kd : Nat) : FieldType := match kd with
  | 0 => .int
  | 1 => .byte
  | 2 => .int
  | 3 => .object RX6
  | 4 => .object RX5
  | _ => .object RX0
def z_tys (cA : Nat → ClassId) : List (ClassId × FieldType) := [(cA 0, .int), (cA 1, .byte), (cA 2, .int), (cA 3, .object RX6), (cA 4, .object RX5), (cA 5, .object RX0)]
def z_isI (ty : FieldType) : Bool := match ty with
  | .int => true
  | .boolean => true
  | _ => false
def z_isR (ty : FieldType) : Bool := match ty with
  | .object _ => true
  | .array _ => true
  | _ => false
def z_fv (ty : FieldType) (M : z_Mem) (Rf : Nat → Nat → Option Nat) (a k : Nat) : Value := match ty with
  | .long => .long (M.2 a k)
  | .object _ => va_rf (Rf a k)
  | .array _ => va_rf (Rf a k)
  | _ => .int (M.1 a k)
def z_av (kd : Nat) (M : z_Mem) (Rf : Nat → Nat → Option Nat) (a : Nat) : (Nat → Int32) ⊕ (Nat → Int64) ⊕ (Nat → UInt32) ⊕ (Nat → UInt64) ⊕ (Nat → Option Nat) := match kd with
  | 0 => .inl (M.1 a)
  | 1 => .inl (M.1 a)
  | 2 => .inl (M.1 a)
  | _ => .inr (.inr (.inr (.inr (Rf a))))
def z_at (X : z_X) (G : z_Gr) (M : z_Mem) (a : Nat) (sh : z_Sh) (H : Heap) : Prop := match sh with
  | .inl ci => ∃ r : vw_C, vwCl[ci]? = some r ∧ t_OB a (X.2.2.1.1 ci) r.2.2 (X.2.2.1.2 ci) H (fun k => z_fv (z_ty ci k) M G.2 a k)
  | .inr kn => H[a]? = some (vp_cell (X.2.2.2.1 kn.1) (kn.2, z_av kn.1 M G.2 a))
def z_low (X : z_X) (H : Heap) : Prop := z_o X ≤ H.size ∧ ∀ q, q < z_o X → H[q]? = X.2.1.heap[q]?
def z_H (X : z_X) (G : z_Gr) (M : z_Mem) (H : Heap) : Prop := z_low X H ∧ ∀ a sh, G.1 a = some sh → z_o X ≤ a ∧ z_at X G M a sh H
def z_U (X : z_X) (G : z_Gr) (M : z_Mem) (U : State) : Prop := X.2.1.WarmedH U.vm ∧ z_H X G M U.heap
abbrev z_A (X : z_X) : Nat → Prop := fun q => z_o X ≤ q
def z_en (k : Nat) : String := if k = 1 then "java/util/NoSuchElementException" else "java/lang/IllegalArgumentException"
abbrev z_O : Type := Except Nat (Option Value)
def z_Qc (X : z_X) (Q : z_O → z_Gr → z_Mem → Prop) : Array Value → State → Outcome → State → Prop := fun _ st o t => st.heap.size ≤ t.heap.size ∧ ∃ (v : Option Value) (G : z_Gr) (M : z_Mem), o = .returned v ∧ Q (.ok v) G M ∧ z_H X G M t.heap
def z_XC (X : z_X) (Q : z_O → z_Gr → z_Mem → Prop) : String → State → State → Prop := fun E st t => st.heap.size ≤ t.heap.size ∧ ∃ (k : Nat) (G : z_Gr) (M : z_Mem), E = z_en k ∧ Q (.error k) G M ∧ z_H X G M t.heap
def z_ws (y : MethodName) (cc : ByteArray) (nL : Nat) (ret : Option FieldType) : List Cond := Cond.code y cc nL ret :: z_tbl
/-- a method's contract: from the world (G, M) it ends, and the end (answer or throw, and the world then) is in Q -/
def z_Ct (X : z_X) (y : MethodName) (cc : ByteArray) (nL : Nat) (ret : Option FieldType) (rm : Room) (av : List Value) (G : z_Gr) (M : z_Mem) (Q : z_O → z_Gr → z_Mem → Prop) : Prop :=
  vx_Met X.1 y (z_ws y cc nL ret) rm (va_Pc av (z_U X G M)) (z_Qc X Q) (z_XC X Q) rm.cells rm.slots (z_A X)
def z_nest : List Cond := [.fieldLinkNest RX0 45 RX11 "RULE_AT_FIRST" "[I" RX11, .fieldLinkNest RX7 100 RX11 "RULE_LEAST" "[I" RX11, .fieldLinkNest RX7 104 RX11 "RULE_MOST" "[I" RX11]
/-- the static arrays: their names and what they hold -/
def z_sn (k : Nat) : String := match k with
  | 0 => "RULE_AT_FIRST"
  | 1 => "RULE_LEAST"
  | _ => "RULE_MOST"
def z_sv (k : Nat) : Nat → Int32 := fun j => (match k with
  | 0 => [15, 1, 5, 3, 0, 240, 30, 0, 0, 0]
  | 1 => [0, 0, 0, 0, 0, 1, 1, 0, 0, 0]
  | _ => [60, 9, 60, 30, 9999, 999, 99, 90, 90, 90] : List Int32).getD j 0
def z_wt : String := "zones road tariff discount rule taxi ride state from to persons ready detour fare wait dwell offer patience fee stint rest many first or and not"
def z_wl : List Int32 := [122, 111, 110, 101, 115, 32, 114, 111, 97, 100, 32, 116, 97, 114, 105, 102, 102, 32, 100, 105, 115, 99, 111, 117, 110, 116, 32, 114, 117, 108, 101, 32, 116, 97, 120, 105, 32, 114, 105, 100, 101, 32, 115, 116, 97, 116, 101, 32, 102, 114, 111, 109, 32, 116, 111, 32, 112, 101, 114, 115, 111, 110, 115, 32, 114, 101, 97, 100, 121, 32, 100, 101, 116, 111, 117, 114, 32, 102, 97, 114, 101, 32, 119, 97, 105, 116, 32, 100, 119, 101, 108, 108, 32, 111, 102, 102, 101, 114, 32, 112, 97, 116, 105, 101, 110, 99, 101, 32, 102, 101, 101, 32, 115, 116, 105, 110, 116, 32, 114, 101, 115, 116, 32, 109, 97, 110, 121, 32, 102, 105, 114, 115, 116, 32, 111, 114, 32, 97, 110, 100, 32, 110, 111, 116]
def z_wc (j : Nat) : Int32 := z_wl.getD j 0
/-- the texts of the class's words and of the law -/
def z_tx : List (String × Nat × String × List Int32) := [(RX8, 72, z_wt, z_wl), (RL, 38, " ", [32]), (RL, 44, ";", [59]), (RL, 46, "rule ", [114, 117, 108, 101, 32]), (RL, 64, "zones ", [122, 111, 110, 101, 115, 32]), (RL, 66, "road", [114, 111, 97, 100]), (RL, 72, "taxi", [116, 97, 120, 105]), (RL, 74, "tariff", [116, 97, 114, 105, 102, 102]), (RL, 76, "discount", [100, 105, 115, 99, 111, 117, 110, 116]), (RL, 79, "wait", [119, 97, 105, 116]), (RL, 85, "dwell", [100, 119, 101, 108, 108]), (RL, 87, "patience", [112, 97, 116, 105, 101, 110, 99, 101]), (RL, 89, "fee", [102, 101, 101]), (RL, 90, "offer", [111, 102, 102, 101, 114])]
def z_tw (w : Nat) : String × Nat × String × List Int32 := z_tx.getD w ("", 0, "", [])
def z_tl (w : Nat) : Nat := (z_tw w).2.2.2.length
def z_tc (w j : Nat) : Int32 := (z_tw w).2.2.2.getD j 0
abbrev z_sa (X : z_X) (w : Nat) : Nat := X.2.2.2.2 (2 * w)
abbrev z_sv1 (X : z_X) (w : Nat) : Nat := X.2.2.2.2 (2 * w + 1)
/-- a text: a String of the JDK's, and what its methods read -/
def z_okS1 (X : z_X) (w : Nat) : Prop := vk_R (z_tw w).1 (z_tw w).2.1 (z_tw w).2.2.1 (z_sa X w) X.2.1 ∧ va_O "java/lang/String" (z_sa X w) (z_A X) X.2.1 X.2.1.heap ∧ va_OF "java/lang/String" "coder" "B" (.int 0) (z_sa X w) (z_A X) X.2.1 X.2.1.heap ∧
  va_OF "java/lang/String" "value" "[B" (.ref (z_sv1 X w)) (z_sa X w) (z_A X) X.2.1 X.2.1.heap ∧ va_T .byte (z_sv1 X w) (z_tl w) (fun j => .int (z_tc w j)) (z_A X) X.2.1 X.2.1.heap
def z_okS (X : z_X) : Prop := (∀ w, w < 14 → z_okS1 X w) ∧
  va_Z "java/lang/String" "COMPACT_STRINGS" "Z" (.int 1) (z_A X) X.2.1 X.2.1.heap ∧ va_Zq "jdk/internal/util/Preconditions" "SIOOBE_FORMATTER" "Ljava/util/function/BiFunction;" (z_A X) X.2.1 X.2.1.heap
/-- what is known of the class world as a whole -/
def z_ok (X : z_X) : Prop := True ∧ va_K X.2.2.1 vwCl (z_tys X.2.2.2.1) X.2.1 ∧ True ∧ True ∧ ((∀ w ∈ z_nest, va_Nw w X.2.1) ∧ z_okS X) ∧
  (∀ k, k < 3 → va_Z RX11 (z_sn k) "[I" (.ref (X.2.2.2.2 (1000 + k))) (z_A X) X.2.1 X.2.1.heap ∧ va_T .int (X.2.2.2.2 (1000 + k)) 10 (fun j => .int (z_sv k j)) (z_A X) X.2.1 X.2.1.heap) ∧ True ∧ True
/-- inside a method -/
def z_B (X : z_X) (F : z_F) (own : String) (cc : ByteArray) (nL : Nat) (ret : Option FieldType) : Prop :=
  F.1.tables.exec = Jvm.exec ∧ F.2.2.2.2.2.2.2.2.code = cc ∧ F.2.2.2.2.2.2.2.2.maxLocals = nL ∧ F.2.2.2.2.2.2.2.1.sig.returnType = ret ∧ F.2.2.2.1.vm.findClass own = some F.2.2.2.2.1.cls ∧
  (∀ w ∈ z_tbl, w.before F.2.2.2.2.2.1 F.2.2.2.1 = true) ∧ F.2.2.2.2.2.2.2.1.locks = false ∧ (own = RL ∨ ∀ x ∈ F.2.2.2.2.2.2.2.2.exceptionTable.toList, False) ∧ X.2.1.WarmedH F.2.2.2.1.vm ∧ z_low X F.2.2.2.1.heap ∧ z_ok X
abbrev z_W (X : z_X) (F : z_F) (mc ms : Nat) (Q : z_O → z_Gr → z_Mem → Prop) (H : Heap) (locs : List Loc) (k n : Nat) (g : JFrame) : Prop :=
  W F.1 X.1 F.2.1 F.2.2.1 F.2.2.2.1 F.2.2.2.2.1 F.2.2.2.2.2.1 F.2.2.2.2.2.2.1 F.2.2.2.2.2.2.2.1 F.2.2.2.2.2.2.2.2 H locs k n (vx_MQ F.2.2.2.2.2.2.1 (z_Qc X Q) (z_XC X Q) F.2.2.2.2.2.1 F.2.2.2.1 mc ms (z_A X)) g
def z_R (X : z_X) (F : z_F) (nL mc ms : Nat) (Q : z_O → z_Gr → z_Mem → Prop) (k n pc : Nat) (loc : List (Nat × Value)) (st : List Value) (G : z_Gr) (M : z_Mem) : Prop :=
  ∀ (H : Heap) (locs : List Loc) (ls : Array Slot), z_H X G M H → F.2.2.2.1.heap.size ≤ H.size → (∀ q ∈ locs, z_o X ≤ q.base) → lv_has ls nL loc → z_W X F mc ms Q H locs k n (F0 F.2.2.2.2.1 pc ls st)
/-- .. by what a term K says of the end -/
def z_K {β : Type} (X : z_X) (F : z_F) (nL mc ms : Nat) (G : z_Gr) (cv : β → z_O × z_Mem) (b0 : β) (k n pc : Nat) (loc : List (Nat × Value)) (st : List Value) (M : z_Mem) (K : Option β) : Prop :=
  K = some b0 → z_R X F nL mc ms (fun o G' M' => G' = G ∧ (o, M') = cv b0) k n pc loc st G M
/-! how terms are made -/
def zl {α : Type} {γ : Sort _} (x : α) (f : α → γ) : γ := f x
def zb {α β : Type} (x : Option α) (f : α → Option β) : Option β := match x with
  | none => none
  | some a => f a
def zb2 {α γ β : Type} (x : Option (α × γ)) (f : α → γ → Option β) : Option β := match x with
  | none => none
  | some a => f a.1 a.2
theorem zb_some {α β : Type} {x : Option α} {f : α → Option β} {b : β} (h : zb x f = some b) : ∃ a, x = some a ∧ f a = some b := by
  cases x with
  | none => cases h
  | some a => exact ⟨a, rfl, h⟩
theorem zb2_some {α γ β : Type} {x : Option (α × γ)} {f : α → γ → Option β} {b : β} (h : zb2 x f = some b) : ∃ a c, x = some (a, c) ∧ f a c = some b := by
  cases x with
  | none => cases h
  | some a => exact ⟨a.1, a.2, rfl, h⟩
