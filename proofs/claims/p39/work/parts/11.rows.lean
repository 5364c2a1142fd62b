/-! ===== the lite rows: an instruction each, over z_K ===== -/
theorem z_low.S {X : z_X} {F : z_F} {own : String} {cc : ByteArray} {nL : Nat} {ret : Option FieldType} (B : z_B X F own cc nL ret) {H : Heap} {locs : List Loc} (hl : z_low X H) (hz : F.2.2.2.1.heap.size ≤ H.size) (hf : ∀ q ∈ locs, z_o X ≤ q.base) : va_S (z_A X) F.2.2.2.1.heap H locs := by
  obtain ⟨-, -, -, -, -, -, -, -, -, ⟨l1, l2⟩, -⟩ := B
  refine ⟨hz, fun q _ hq => ?_, hf⟩
  have hq' : q < z_o X := Nat.lt_of_not_le hq
  rw [hl.2 q hq', l2 q hq']
section ZR1
variable {X : z_X} {F : z_F} {own : String} {cc : ByteArray} {nL mc ms : Nat} {ret : Option FieldType} {G : z_Gr} {β : Type} {cv : β → z_O × z_Mem} {b0 : β} {k n pc : Nat} {loc loc' : List (Nat × Value)} {st : List Value} {M : z_Mem} {K : Option β}
theorem zk_pc {pc' : Nat} (h : pc = pc') (kk : z_K X F nL mc ms G cv b0 k n pc' loc st M K) : z_K X F nL mc ms G cv b0 k n pc loc st M K := h ▸ kk
theorem zk_none : z_K X F nL mc ms G cv b0 k n pc loc st M none := fun h => nomatch h
theorem zk_let {α : Type} {x : α} {f : α → Option β} (kk : ∀ y : α, z_K X F nL mc ms G cv b0 k n pc loc st M (f y)) : z_K X F nL mc ms G cv b0 k n pc loc st M (zl x f) := kk x
/-- a number on the stack gets a name -/
theorem zk_li {x : Int32} {f : Int32 → Option β} (kk : ∀ y : Int32, z_K X F nL mc ms G cv b0 k n pc loc (.int y :: st) M (f y)) : z_K X F nL mc ms G cv b0 k n pc loc (.int x :: st) M (zl x f) := kk x
theorem zk_ll {x : Int64} {f : Int64 → Option β} (kk : ∀ y : Int64, z_K X F nL mc ms G cv b0 k n pc loc (.long y :: st) M (f y)) : z_K X F nL mc ms G cv b0 k n pc loc (.long x :: st) M (zl x f) := kk x
theorem zk_if {c : Prop} [Decidable c] {K2 : Option β} (k1 : c → z_K X F nL mc ms G cv b0 k n pc loc st M K) (k2 : ¬ c → z_K X F nL mc ms G cv b0 k n pc loc st M K2) : z_K X F nL mc ms G cv b0 k n pc loc st M (if c then K else K2) := by
  by_cases h : c
  · rw [if_pos h]; exact k1 h
  · rw [if_neg h]; exact k2 h
/-- only where c holds -/
theorem zk_chk {c : Prop} [Decidable c] (k1 : c → z_K X F nL mc ms G cv b0 k n pc loc st M K) : z_K X F nL mc ms G cv b0 k n pc loc st M (if c then K else none) := zk_if k1 (fun _ => zk_none)
/-- fewer known locals, or in another order -/
theorem zk_sub (ks : List Nat) (hl : lv_pick loc ks = loc') (kk : z_K X F nL mc ms G cv b0 k n pc loc' st M K) : z_K X F nL mc ms G cv b0 k n pc loc st M K :=
  fun h0 H locs ls hH hz hf hL => kk h0 H locs ls hH hz hf (lv_sub hL ks hl)
theorem zk_widen {k' n' : Nat} (h1 : k ≤ k') (h2 : n ≤ n') (kk : z_K X F nL mc ms G cv b0 k' n' pc loc st M K) : z_K X F nL mc ms G cv b0 k n pc loc st M K :=
  fun h0 H locs ls hH hz hf hL => W.widen h1 h2 (kk h0 H locs ls hH hz hf hL)
theorem zk_iload_n (B : z_B X F own cc nL ret) {q : Fin 4} {x : Int32} {i : Nat} (d : decode cc pc = .ok (.iload_n q, 1)) (r : Nat) (hi : (q : Nat) = i) (hl : loc[r]? = some (i, .int x)) (kk : z_K X F nL mc ms G cv b0 k n (pc + 1) loc (.int x :: st) M K) : z_K X F nL mc ms G cv b0 k n pc loc st M K :=
  fun h0 H locs ls hH hz hf hL => lv_iload_n B.1 B.2.1 d hi (lv_at hL r hl) (kk h0 H locs ls hH hz hf hL)
theorem zk_iload (B : z_B X F own cc nL ret) {i : Nat} {x : Int32} (d : decode cc pc = .ok (.iload i, 2)) (r : Nat) (hl : loc[r]? = some (i, .int x)) (kk : z_K X F nL mc ms G cv b0 k n (pc + 2) loc (.int x :: st) M K) : z_K X F nL mc ms G cv b0 k n pc loc st M K :=
  fun h0 H locs ls hH hz hf hL => lv_iload B.1 B.2.1 d (lv_at hL r hl) (kk h0 H locs ls hH hz hf hL)
theorem zk_aload_n (B : z_B X F own cc nL ret) {q : Fin 4} {x : Nat} {i : Nat} (d : decode cc pc = .ok (.aload_n q, 1)) (r : Nat) (hi : (q : Nat) = i) (hl : loc[r]? = some (i, .ref x)) (kk : z_K X F nL mc ms G cv b0 k n (pc + 1) loc (.ref x :: st) M K) : z_K X F nL mc ms G cv b0 k n pc loc st M K :=
  fun h0 H locs ls hH hz hf hL => lv_aload_n B.1 B.2.1 d hi (lv_at hL r hl) (kk h0 H locs ls hH hz hf hL)
theorem zk_aload (B : z_B X F own cc nL ret) {i : Nat} {x : Nat} (d : decode cc pc = .ok (.aload i, 2)) (r : Nat) (hl : loc[r]? = some (i, .ref x)) (kk : z_K X F nL mc ms G cv b0 k n (pc + 2) loc (.ref x :: st) M K) : z_K X F nL mc ms G cv b0 k n pc loc st M K :=
  fun h0 H locs ls hH hz hf hL => lv_aload B.1 B.2.1 d (lv_at hL r hl) (kk h0 H locs ls hH hz hf hL)
theorem zk_lload_n (B : z_B X F own cc nL ret) {q : Fin 4} {x : Int64} {i : Nat} (d : decode cc pc = .ok (.lload_n q, 1)) (r : Nat) (hi : (q : Nat) = i) (hl : loc[r]? = some (i, .long x)) (kk : z_K X F nL mc ms G cv b0 k n (pc + 1) loc (.long x :: st) M K) : z_K X F nL mc ms G cv b0 k n pc loc st M K :=
  fun h0 H locs ls hH hz hf hL => lv_lload_n B.1 B.2.1 d hi (lv_at hL r hl) (kk h0 H locs ls hH hz hf hL)
theorem zk_lload (B : z_B X F own cc nL ret) {i : Nat} {x : Int64} (d : decode cc pc = .ok (.lload i, 2)) (r : Nat) (hl : loc[r]? = some (i, .long x)) (kk : z_K X F nL mc ms G cv b0 k n (pc + 2) loc (.long x :: st) M K) : z_K X F nL mc ms G cv b0 k n pc loc st M K :=
  fun h0 H locs ls hH hz hf hL => lv_lload B.1 B.2.1 d (lv_at hL r hl) (kk h0 H locs ls hH hz hf hL)
theorem zk_istore_n (B : z_B X F own cc nL ret) {q : Fin 4} {i : Nat} {x : Int32} (d : decode cc pc = .ok (.istore_n q, 1)) (hi : (q : Nat) = i) (hn : i < nL) (hl : (i, Value.int x) :: loc.filter (fun q => !(q.1 == i) && !(q.1 + 1 == i && q.2.category == 2)) = loc') (kk : z_K X F nL mc ms G cv b0 k n (pc + 1) loc' st M K) : z_K X F nL mc ms G cv b0 k n pc loc (.int x :: st) M K :=
  fun h0 H locs ls hH hz hf hL => lv_istore_n B.1 B.2.1 d hi hL hn hl (fun ls' hL' => kk h0 H locs ls' hH hz hf hL')
theorem zk_istore (B : z_B X F own cc nL ret) {i : Nat} {x : Int32} (d : decode cc pc = .ok (.istore i, 2)) (hn : i < nL) (hl : (i, Value.int x) :: loc.filter (fun q => !(q.1 == i) && !(q.1 + 1 == i && q.2.category == 2)) = loc') (kk : z_K X F nL mc ms G cv b0 k n (pc + 2) loc' st M K) : z_K X F nL mc ms G cv b0 k n pc loc (.int x :: st) M K :=
  fun h0 H locs ls hH hz hf hL => lv_istore B.1 B.2.1 d hL hn hl (fun ls' hL' => kk h0 H locs ls' hH hz hf hL')
theorem zk_astore_n (B : z_B X F own cc nL ret) {q : Fin 4} {i : Nat} {x : Nat} (d : decode cc pc = .ok (.astore_n q, 1)) (hi : (q : Nat) = i) (hn : i < nL) (hl : (i, Value.ref x) :: loc.filter (fun q => !(q.1 == i) && !(q.1 + 1 == i && q.2.category == 2)) = loc') (kk : z_K X F nL mc ms G cv b0 k n (pc + 1) loc' st M K) : z_K X F nL mc ms G cv b0 k n pc loc (.ref x :: st) M K :=
  fun h0 H locs ls hH hz hf hL => lv_astore_n B.1 B.2.1 d hi hL hn hl (fun ls' hL' => kk h0 H locs ls' hH hz hf hL')
theorem zk_astore (B : z_B X F own cc nL ret) {i : Nat} {x : Nat} (d : decode cc pc = .ok (.astore i, 2)) (hn : i < nL) (hl : (i, Value.ref x) :: loc.filter (fun q => !(q.1 == i) && !(q.1 + 1 == i && q.2.category == 2)) = loc') (kk : z_K X F nL mc ms G cv b0 k n (pc + 2) loc' st M K) : z_K X F nL mc ms G cv b0 k n pc loc (.ref x :: st) M K :=
  fun h0 H locs ls hH hz hf hL => lv_astore B.1 B.2.1 d hL hn hl (fun ls' hL' => kk h0 H locs ls' hH hz hf hL')
theorem zk_lstore_n (B : z_B X F own cc nL ret) {q : Fin 4} {i : Nat} {x : Int64} (d : decode cc pc = .ok (.lstore_n q, 1)) (hi : (q : Nat) = i) (hn : i + 1 < nL) (hl : (i, Value.long x) :: loc.filter (fun q => !(q.1 == i) && (!(q.1 == i + 1) && !(q.1 + 1 == i && q.2.category == 2))) = loc') (kk : z_K X F nL mc ms G cv b0 k n (pc + 1) loc' st M K) : z_K X F nL mc ms G cv b0 k n pc loc (.long x :: st) M K :=
  fun h0 H locs ls hH hz hf hL => lv_lstore_n B.1 B.2.1 d hi hL hn hl (fun ls' hL' => kk h0 H locs ls' hH hz hf hL')
theorem zk_lstore (B : z_B X F own cc nL ret) {i : Nat} {x : Int64} (d : decode cc pc = .ok (.lstore i, 2)) (hn : i + 1 < nL) (hl : (i, Value.long x) :: loc.filter (fun q => !(q.1 == i) && (!(q.1 == i + 1) && !(q.1 + 1 == i && q.2.category == 2))) = loc') (kk : z_K X F nL mc ms G cv b0 k n (pc + 2) loc' st M K) : z_K X F nL mc ms G cv b0 k n pc loc (.long x :: st) M K :=
  fun h0 H locs ls hH hz hf hL => lv_lstore B.1 B.2.1 d hL hn hl (fun ls' hL' => kk h0 H locs ls' hH hz hf hL')
/-- the new number gets a name -/
theorem zk_iinc (B : z_B X F own cc nL ret) {i : Nat} {w : Int} {x y : Int32} {f : Int32 → Option β} {lf : Int32 → List (Nat × Value)} (d : decode cc pc = .ok (.iinc i w, 3)) (r : Nat) (hl : loc[r]? = some (i, .int x)) (hw : Int32.ofInt w = y) (hn : i < nL) (hl2 : ∀ v, (i, Value.int v) :: loc.filter (fun q => !(q.1 == i) && !(q.1 + 1 == i && q.2.category == 2)) = lf v) (kk : ∀ v, z_K X F nL mc ms G cv b0 k n (pc + 3) (lf v) st M (f v)) : z_K X F nL mc ms G cv b0 k n pc loc st M (zl (x + y) f) :=
  fun h0 H locs ls hH hz hf hL => lv_iinc (v := x + y) B.1 B.2.1 d hL hl (by rw [hw]) hn (hl2 _) (fun ls' hL' => kk (x + y) h0 H locs ls' hH hz hf hL')
theorem zk_iconst (B : z_B X F own cc nL ret) {w : Int} {v : Int32} (d : decode cc pc = .ok (.iconst w, 1)) (hv : Int32.ofInt w = v) (kk : z_K X F nL mc ms G cv b0 k n (pc + 1) loc (.int v :: st) M K) : z_K X F nL mc ms G cv b0 k n pc loc st M K :=
  fun h0 H locs ls hH hz hf hL => lv_iconst B.1 B.2.1 d hv (kk h0 H locs ls hH hz hf hL)
theorem zk_bipush (B : z_B X F own cc nL ret) {w : Int} {v : Int32} (d : decode cc pc = .ok (.bipush w, 2)) (hv : (Int8.ofInt w).toInt32 = v) (kk : z_K X F nL mc ms G cv b0 k n (pc + 2) loc (.int v :: st) M K) : z_K X F nL mc ms G cv b0 k n pc loc st M K :=
  fun h0 H locs ls hH hz hf hL => lv_bipush B.1 B.2.1 d hv (kk h0 H locs ls hH hz hf hL)
theorem zk_sipush (B : z_B X F own cc nL ret) {w : Int} {v : Int32} (d : decode cc pc = .ok (.sipush w, 3)) (hv : (Int16.ofInt w).toInt32 = v) (kk : z_K X F nL mc ms G cv b0 k n (pc + 3) loc (.int v :: st) M K) : z_K X F nL mc ms G cv b0 k n pc loc st M K :=
  fun h0 H locs ls hH hz hf hL => lv_sipush B.1 B.2.1 d hv (kk h0 H locs ls hH hz hf hL)
theorem zk_lconst (B : z_B X F own cc nL ret) {w : Fin 2} {v : Int64} (d : decode cc pc = .ok (.lconst w, 1)) (hv : Int64.ofNat (w : Nat) = v) (kk : z_K X F nL mc ms G cv b0 k n (pc + 1) loc (.long v :: st) M K) : z_K X F nL mc ms G cv b0 k n pc loc st M K :=
  fun h0 H locs ls hH hz hf hL => lv_lconst B.1 B.2.1 d hv (kk h0 H locs ls hH hz hf hL)
theorem zk_ldc (B : z_B X F own cc nL ret) {ix : Nat} {v : Int32} (hc : Cond.constant own ix v ∈ z_tbl) (d : decode cc pc = .ok (.ldc ix, 2)) (kk : z_K X F nL mc ms G cv b0 k n (pc + 2) loc (.int v :: st) M K) : z_K X F nL mc ms G cv b0 k n pc loc st M K :=
  fun h0 H locs ls hH hz hf hL => lv_ldc B.1 B.2.1 B.2.2.2.2.1 (B.2.2.2.2.2.1 _ hc) d (kk h0 H locs ls hH hz hf hL)
theorem zk_ldcw (B : z_B X F own cc nL ret) {ix : Nat} {v : Int32} (hc : Cond.constant own ix v ∈ z_tbl) (d : decode cc pc = .ok (.ldc_w ix, 3)) (kk : z_K X F nL mc ms G cv b0 k n (pc + 3) loc (.int v :: st) M K) : z_K X F nL mc ms G cv b0 k n pc loc st M K :=
  fun h0 H locs ls hH hz hf hL => lv_ldcw B.1 B.2.1 B.2.2.2.2.1 (B.2.2.2.2.2.1 _ hc) d (kk h0 H locs ls hH hz hf hL)
theorem zk_ldc2 (B : z_B X F own cc nL ret) {ix : Nat} {v : Int64} (hc : Cond.constantLong own ix v ∈ z_tbl) (d : decode cc pc = .ok (.ldc2_w ix, 3)) (kk : z_K X F nL mc ms G cv b0 k n (pc + 3) loc (.long v :: st) M K) : z_K X F nL mc ms G cv b0 k n pc loc st M K :=
  fun h0 H locs ls hH hz hf hL => lv_ldc2 B.1 B.2.1 B.2.2.2.2.1 (B.2.2.2.2.2.1 _ hc) d (kk h0 H locs ls hH hz hf hL)
theorem zk_iadd (B : z_B X F own cc nL ret) {x y : Int32} (d : decode cc pc = .ok (.iadd, 1)) (kk : z_K X F nL mc ms G cv b0 k n (pc + 1) loc (.int (x + y) :: st) M K) : z_K X F nL mc ms G cv b0 k n pc loc (.int y :: .int x :: st) M K :=
  fun h0 H locs ls hH hz hf hL => lv_iadd B.1 B.2.1 d (kk h0 H locs ls hH hz hf hL)
theorem zk_isub (B : z_B X F own cc nL ret) {x y : Int32} (d : decode cc pc = .ok (.isub, 1)) (kk : z_K X F nL mc ms G cv b0 k n (pc + 1) loc (.int (x - y) :: st) M K) : z_K X F nL mc ms G cv b0 k n pc loc (.int y :: .int x :: st) M K :=
  fun h0 H locs ls hH hz hf hL => lv_isub B.1 B.2.1 d (kk h0 H locs ls hH hz hf hL)
theorem zk_imul (B : z_B X F own cc nL ret) {x y : Int32} (d : decode cc pc = .ok (.imul, 1)) (kk : z_K X F nL mc ms G cv b0 k n (pc + 1) loc (.int (x * y) :: st) M K) : z_K X F nL mc ms G cv b0 k n pc loc (.int y :: .int x :: st) M K :=
  fun h0 H locs ls hH hz hf hL => lv_imul B.1 B.2.1 d (kk h0 H locs ls hH hz hf hL)
theorem zk_iand (B : z_B X F own cc nL ret) {x y : Int32} (d : decode cc pc = .ok (.iand, 1)) (kk : z_K X F nL mc ms G cv b0 k n (pc + 1) loc (.int (x &&& y) :: st) M K) : z_K X F nL mc ms G cv b0 k n pc loc (.int y :: .int x :: st) M K :=
  fun h0 H locs ls hH hz hf hL => lv_iand B.1 B.2.1 d (kk h0 H locs ls hH hz hf hL)
theorem zk_ior (B : z_B X F own cc nL ret) {x y : Int32} (d : decode cc pc = .ok (.ior, 1)) (kk : z_K X F nL mc ms G cv b0 k n (pc + 1) loc (.int (x ||| y) :: st) M K) : z_K X F nL mc ms G cv b0 k n pc loc (.int y :: .int x :: st) M K :=
  fun h0 H locs ls hH hz hf hL => lv_ior B.1 B.2.1 d (kk h0 H locs ls hH hz hf hL)
theorem zk_ixor (B : z_B X F own cc nL ret) {x y : Int32} (d : decode cc pc = .ok (.ixor, 1)) (kk : z_K X F nL mc ms G cv b0 k n (pc + 1) loc (.int (x ^^^ y) :: st) M K) : z_K X F nL mc ms G cv b0 k n pc loc (.int y :: .int x :: st) M K :=
  fun h0 H locs ls hH hz hf hL => lv_ixor B.1 B.2.1 d (kk h0 H locs ls hH hz hf hL)
theorem zk_ishl (B : z_B X F own cc nL ret) {x y : Int32} (d : decode cc pc = .ok (.ishl, 1)) (kk : z_K X F nL mc ms G cv b0 k n (pc + 1) loc (.int (x <<< (y &&& 31)) :: st) M K) : z_K X F nL mc ms G cv b0 k n pc loc (.int y :: .int x :: st) M K :=
  fun h0 H locs ls hH hz hf hL => lv_ishl B.1 B.2.1 d (kk h0 H locs ls hH hz hf hL)
theorem zk_ishr (B : z_B X F own cc nL ret) {x y : Int32} (d : decode cc pc = .ok (.ishr, 1)) (kk : z_K X F nL mc ms G cv b0 k n (pc + 1) loc (.int (x >>> (y &&& 31)) :: st) M K) : z_K X F nL mc ms G cv b0 k n pc loc (.int y :: .int x :: st) M K :=
  fun h0 H locs ls hH hz hf hL => lv_ishr B.1 B.2.1 d (kk h0 H locs ls hH hz hf hL)
theorem zk_ineg (B : z_B X F own cc nL ret) {x : Int32} (d : decode cc pc = .ok (.ineg, 1)) (kk : z_K X F nL mc ms G cv b0 k n (pc + 1) loc (.int (-x) :: st) M K) : z_K X F nL mc ms G cv b0 k n pc loc (.int x :: st) M K :=
  fun h0 H locs ls hH hz hf hL => lv_ineg B.1 B.2.1 d (kk h0 H locs ls hH hz hf hL)
theorem zk_idiv (B : z_B X F own cc nL ret) {x y : Int32} (d : decode cc pc = .ok (.idiv, 1)) (hy : ¬ y = 0) (kk : z_K X F nL mc ms G cv b0 k n (pc + 1) loc (.int (x / y) :: st) M K) : z_K X F nL mc ms G cv b0 k n pc loc (.int y :: .int x :: st) M K :=
  fun h0 H locs ls hH hz hf hL => lv_idiv B.1 B.2.1 d hy (kk h0 H locs ls hH hz hf hL)
theorem zk_irem (B : z_B X F own cc nL ret) {x y : Int32} (d : decode cc pc = .ok (.irem, 1)) (hy : ¬ y = 0) (kk : z_K X F nL mc ms G cv b0 k n (pc + 1) loc (.int (x - x / y * y) :: st) M K) : z_K X F nL mc ms G cv b0 k n pc loc (.int y :: .int x :: st) M K :=
  fun h0 H locs ls hH hz hf hL => lv_irem B.1 B.2.1 d hy (kk h0 H locs ls hH hz hf hL)
theorem zk_i2l (B : z_B X F own cc nL ret) {x : Int32} (d : decode cc pc = .ok (.i2l, 1)) (kk : z_K X F nL mc ms G cv b0 k n (pc + 1) loc (.long x.toInt64 :: st) M K) : z_K X F nL mc ms G cv b0 k n pc loc (.int x :: st) M K :=
  fun h0 H locs ls hH hz hf hL => lv_i2l B.1 B.2.1 d rfl (kk h0 H locs ls hH hz hf hL)
theorem zk_i2b (B : z_B X F own cc nL ret) {x : Int32} (d : decode cc pc = .ok (.i2b, 1)) (kk : z_K X F nL mc ms G cv b0 k n (pc + 1) loc (.int x.toInt8.toInt32 :: st) M K) : z_K X F nL mc ms G cv b0 k n pc loc (.int x :: st) M K :=
  fun h0 H locs ls hH hz hf hL => lv_i2b B.1 B.2.1 d rfl (kk h0 H locs ls hH hz hf hL)
theorem zk_ladd (B : z_B X F own cc nL ret) {x y : Int64} (d : decode cc pc = .ok (.ladd, 1)) (kk : z_K X F nL mc ms G cv b0 k n (pc + 1) loc (.long (x + y) :: st) M K) : z_K X F nL mc ms G cv b0 k n pc loc (.long y :: .long x :: st) M K :=
  fun h0 H locs ls hH hz hf hL => lv_ladd B.1 B.2.1 d (kk h0 H locs ls hH hz hf hL)
theorem zk_lsub (B : z_B X F own cc nL ret) {x y : Int64} (d : decode cc pc = .ok (.lsub, 1)) (kk : z_K X F nL mc ms G cv b0 k n (pc + 1) loc (.long (x - y) :: st) M K) : z_K X F nL mc ms G cv b0 k n pc loc (.long y :: .long x :: st) M K :=
  fun h0 H locs ls hH hz hf hL => lv_lsub B.1 B.2.1 d (kk h0 H locs ls hH hz hf hL)
theorem zk_lmul (B : z_B X F own cc nL ret) {x y : Int64} (d : decode cc pc = .ok (.lmul, 1)) (kk : z_K X F nL mc ms G cv b0 k n (pc + 1) loc (.long (x * y) :: st) M K) : z_K X F nL mc ms G cv b0 k n pc loc (.long y :: .long x :: st) M K :=
  fun h0 H locs ls hH hz hf hL => lv_lmul B.1 B.2.1 d (kk h0 H locs ls hH hz hf hL)
theorem zk_lcmp (B : z_B X F own cc nL ret) {x y : Int64} (d : decode cc pc = .ok (.lcmp, 1)) (kk : z_K X F nL mc ms G cv b0 k n (pc + 1) loc (.int (lg_cmp x y) :: st) M K) : z_K X F nL mc ms G cv b0 k n pc loc (.long y :: .long x :: st) M K :=
  fun h0 H locs ls hH hz hf hL => W.lcmp B.1 B.2.1 d (kk h0 H locs ls hH hz hf hL)
theorem zk_dup (B : z_B X F own cc nL ret) {v : Value} (d : decode cc pc = .ok (.dup, 1)) (hv : v.category = 1) (kk : z_K X F nL mc ms G cv b0 k n (pc + 1) loc (v :: v :: st) M K) : z_K X F nL mc ms G cv b0 k n pc loc (v :: st) M K :=
  fun h0 H locs ls hH hz hf hL => lv_dup B.1 B.2.1 d hv (kk h0 H locs ls hH hz hf hL)
theorem zk_dup2 (B : z_B X F own cc nL ret) {v w : Value} (d : decode cc pc = .ok (.dup2, 1)) (hv : v.category = 1) (hw : w.category = 1) (kk : z_K X F nL mc ms G cv b0 k n (pc + 1) loc (v :: w :: v :: w :: st) M K) : z_K X F nL mc ms G cv b0 k n pc loc (v :: w :: st) M K :=
  fun h0 H locs ls hH hz hf hL => lv_dup2_11 B.1 B.2.1 d hv hw (kk h0 H locs ls hH hz hf hL)
theorem zk_dup_x1 (B : z_B X F own cc nL ret) {v w : Value} (d : decode cc pc = .ok (.dup_x1, 1)) (hv : v.category = 1) (hw : w.category = 1) (kk : z_K X F nL mc ms G cv b0 k n (pc + 1) loc (v :: w :: v :: st) M K) : z_K X F nL mc ms G cv b0 k n pc loc (v :: w :: st) M K :=
  fun h0 H locs ls hH hz hf hL => lv_dup_x1 B.1 B.2.1 d hv hw (kk h0 H locs ls hH hz hf hL)
theorem zk_pop (B : z_B X F own cc nL ret) {v : Value} (d : decode cc pc = .ok (.pop, 1)) (hv : v.category = 1) (kk : z_K X F nL mc ms G cv b0 k n (pc + 1) loc st M K) : z_K X F nL mc ms G cv b0 k n pc loc (v :: st) M K :=
  fun h0 H locs ls hH hz hf hL => lv_pop B.1 B.2.1 d hv (kk h0 H locs ls hH hz hf hL)
theorem zk_goto (B : z_B X F own cc nL ret) {off : Int} {tgt : Nat} (d : decode cc pc = .ok (.goto off, 3)) (ht : (pc : Int) + off = (tgt : Int)) (kk : z_K X F nL mc ms G cv b0 k n tgt loc st M K) : z_K X F nL mc ms G cv b0 k n pc loc st M K :=
  fun h0 H locs ls hH hz hf hL => lv_goto B.1 B.2.1 d ht (kk h0 H locs ls hH hz hf hL)
theorem zk_if_eq (B : z_B X F own cc nL ret) {x : Int32} {K2 : Option β} {off : Int} {tgt : Nat} (d : decode cc pc = .ok (.ifCond .eq off, 3)) (ht : (pc : Int) + off = (tgt : Int)) (k1 : x = 0 → z_K X F nL mc ms G cv b0 k n tgt loc st M K) (k2 : ¬ (x = 0) → z_K X F nL mc ms G cv b0 k n (pc + 3) loc st M K2) : z_K X F nL mc ms G cv b0 k n pc loc (.int x :: st) M (if x = 0 then K else K2) := by
  intro h0 H locs ls hH hz hf hL
  refine lv_if_eq B.1 B.2.1 d ht (fun h => ?_) (fun h => ?_)
  · rw [if_pos h] at h0; exact k1 h h0 H locs ls hH hz hf hL
  · rw [if_neg h] at h0; exact k2 h h0 H locs ls hH hz hf hL
theorem zk_if_ne (B : z_B X F own cc nL ret) {x : Int32} {K2 : Option β} {off : Int} {tgt : Nat} (d : decode cc pc = .ok (.ifCond .ne off, 3)) (ht : (pc : Int) + off = (tgt : Int)) (k1 : ¬ x = 0 → z_K X F nL mc ms G cv b0 k n tgt loc st M K) (k2 : x = 0 → z_K X F nL mc ms G cv b0 k n (pc + 3) loc st M K2) : z_K X F nL mc ms G cv b0 k n pc loc (.int x :: st) M (if x = 0 then K2 else K) := by
  intro h0 H locs ls hH hz hf hL
  refine lv_if_ne B.1 B.2.1 d ht (fun h => ?_) (fun h => ?_)
  · rw [if_neg h] at h0; exact k1 h h0 H locs ls hH hz hf hL
  · rw [if_pos h] at h0; exact k2 h h0 H locs ls hH hz hf hL
theorem zk_if_lt (B : z_B X F own cc nL ret) {x : Int32} {K2 : Option β} {off : Int} {tgt : Nat} (d : decode cc pc = .ok (.ifCond .lt off, 3)) (ht : (pc : Int) + off = (tgt : Int)) (k1 : x < 0 → z_K X F nL mc ms G cv b0 k n tgt loc st M K) (k2 : ¬ (x < 0) → z_K X F nL mc ms G cv b0 k n (pc + 3) loc st M K2) : z_K X F nL mc ms G cv b0 k n pc loc (.int x :: st) M (if x < 0 then K else K2) := by
  intro h0 H locs ls hH hz hf hL
  refine lv_if_lt B.1 B.2.1 d ht (fun h => ?_) (fun h => ?_)
  · rw [if_pos h] at h0; exact k1 h h0 H locs ls hH hz hf hL
  · rw [if_neg h] at h0; exact k2 h h0 H locs ls hH hz hf hL
theorem zk_if_ge (B : z_B X F own cc nL ret) {x : Int32} {K2 : Option β} {off : Int} {tgt : Nat} (d : decode cc pc = .ok (.ifCond .ge off, 3)) (ht : (pc : Int) + off = (tgt : Int)) (k1 : 0 ≤ x → z_K X F nL mc ms G cv b0 k n tgt loc st M K) (k2 : ¬ (0 ≤ x) → z_K X F nL mc ms G cv b0 k n (pc + 3) loc st M K2) : z_K X F nL mc ms G cv b0 k n pc loc (.int x :: st) M (if 0 ≤ x then K else K2) := by
  intro h0 H locs ls hH hz hf hL
  refine lv_if_ge B.1 B.2.1 d ht (fun h => ?_) (fun h => ?_)
  · rw [if_pos h] at h0; exact k1 h h0 H locs ls hH hz hf hL
  · rw [if_neg h] at h0; exact k2 h h0 H locs ls hH hz hf hL
theorem zk_if_gt (B : z_B X F own cc nL ret) {x : Int32} {K2 : Option β} {off : Int} {tgt : Nat} (d : decode cc pc = .ok (.ifCond .gt off, 3)) (ht : (pc : Int) + off = (tgt : Int)) (k1 : 0 < x → z_K X F nL mc ms G cv b0 k n tgt loc st M K) (k2 : ¬ (0 < x) → z_K X F nL mc ms G cv b0 k n (pc + 3) loc st M K2) : z_K X F nL mc ms G cv b0 k n pc loc (.int x :: st) M (if 0 < x then K else K2) := by
  intro h0 H locs ls hH hz hf hL
  refine lv_if_gt B.1 B.2.1 d ht (fun h => ?_) (fun h => ?_)
  · rw [if_pos h] at h0; exact k1 h h0 H locs ls hH hz hf hL
  · rw [if_neg h] at h0; exact k2 h h0 H locs ls hH hz hf hL
theorem zk_if_le (B : z_B X F own cc nL ret) {x : Int32} {K2 : Option β} {off : Int} {tgt : Nat} (d : decode cc pc = .ok (.ifCond .le off, 3)) (ht : (pc : Int) + off = (tgt : Int)) (k1 : x ≤ 0 → z_K X F nL mc ms G cv b0 k n tgt loc st M K) (k2 : ¬ (x ≤ 0) → z_K X F nL mc ms G cv b0 k n (pc + 3) loc st M K2) : z_K X F nL mc ms G cv b0 k n pc loc (.int x :: st) M (if x ≤ 0 then K else K2) := by
  intro h0 H locs ls hH hz hf hL
  refine lv_if_le B.1 B.2.1 d ht (fun h => ?_) (fun h => ?_)
  · rw [if_pos h] at h0; exact k1 h h0 H locs ls hH hz hf hL
  · rw [if_neg h] at h0; exact k2 h h0 H locs ls hH hz hf hL
theorem zk_icmp_eq (B : z_B X F own cc nL ret) {x y : Int32} {K2 : Option β} {off : Int} {tgt : Nat} (d : decode cc pc = .ok (.if_icmp .eq off, 3)) (ht : (pc : Int) + off = (tgt : Int)) (k1 : x = y → z_K X F nL mc ms G cv b0 k n tgt loc st M K) (k2 : ¬ (x = y) → z_K X F nL mc ms G cv b0 k n (pc + 3) loc st M K2) : z_K X F nL mc ms G cv b0 k n pc loc (.int y :: .int x :: st) M (if x = y then K else K2) := by
  intro h0 H locs ls hH hz hf hL
  refine lv_icmp_eq B.1 B.2.1 d ht (fun h => ?_) (fun h => ?_)
  · rw [if_pos h] at h0; exact k1 h h0 H locs ls hH hz hf hL
  · rw [if_neg h] at h0; exact k2 h h0 H locs ls hH hz hf hL
theorem zk_icmp_ne (B : z_B X F own cc nL ret) {x y : Int32} {K2 : Option β} {off : Int} {tgt : Nat} (d : decode cc pc = .ok (.if_icmp .ne off, 3)) (ht : (pc : Int) + off = (tgt : Int)) (k1 : ¬ x = y → z_K X F nL mc ms G cv b0 k n tgt loc st M K) (k2 : x = y → z_K X F nL mc ms G cv b0 k n (pc + 3) loc st M K2) : z_K X F nL mc ms G cv b0 k n pc loc (.int y :: .int x :: st) M (if x = y then K2 else K) := by
  intro h0 H locs ls hH hz hf hL
  refine lv_icmp_ne B.1 B.2.1 d ht (fun h => ?_) (fun h => ?_)
  · rw [if_neg h] at h0; exact k1 h h0 H locs ls hH hz hf hL
  · rw [if_pos h] at h0; exact k2 h h0 H locs ls hH hz hf hL
theorem zk_icmp_lt (B : z_B X F own cc nL ret) {x y : Int32} {K2 : Option β} {off : Int} {tgt : Nat} (d : decode cc pc = .ok (.if_icmp .lt off, 3)) (ht : (pc : Int) + off = (tgt : Int)) (k1 : x < y → z_K X F nL mc ms G cv b0 k n tgt loc st M K) (k2 : ¬ (x < y) → z_K X F nL mc ms G cv b0 k n (pc + 3) loc st M K2) : z_K X F nL mc ms G cv b0 k n pc loc (.int y :: .int x :: st) M (if x < y then K else K2) := by
  intro h0 H locs ls hH hz hf hL
  refine lv_icmp_lt B.1 B.2.1 d ht (fun h => ?_) (fun h => ?_)
  · rw [if_pos h] at h0; exact k1 h h0 H locs ls hH hz hf hL
  · rw [if_neg h] at h0; exact k2 h h0 H locs ls hH hz hf hL
theorem zk_icmp_ge (B : z_B X F own cc nL ret) {x y : Int32} {K2 : Option β} {off : Int} {tgt : Nat} (d : decode cc pc = .ok (.if_icmp .ge off, 3)) (ht : (pc : Int) + off = (tgt : Int)) (k1 : y ≤ x → z_K X F nL mc ms G cv b0 k n tgt loc st M K) (k2 : ¬ (y ≤ x) → z_K X F nL mc ms G cv b0 k n (pc + 3) loc st M K2) : z_K X F nL mc ms G cv b0 k n pc loc (.int y :: .int x :: st) M (if y ≤ x then K else K2) := by
  intro h0 H locs ls hH hz hf hL
  refine lv_icmp_ge B.1 B.2.1 d ht (fun h => ?_) (fun h => ?_)
  · rw [if_pos h] at h0; exact k1 h h0 H locs ls hH hz hf hL
  · rw [if_neg h] at h0; exact k2 h h0 H locs ls hH hz hf hL
theorem zk_icmp_gt (B : z_B X F own cc nL ret) {x y : Int32} {K2 : Option β} {off : Int} {tgt : Nat} (d : decode cc pc = .ok (.if_icmp .gt off, 3)) (ht : (pc : Int) + off = (tgt : Int)) (k1 : y < x → z_K X F nL mc ms G cv b0 k n tgt loc st M K) (k2 : ¬ (y < x) → z_K X F nL mc ms G cv b0 k n (pc + 3) loc st M K2) : z_K X F nL mc ms G cv b0 k n pc loc (.int y :: .int x :: st) M (if y < x then K else K2) := by
  intro h0 H locs ls hH hz hf hL
  refine lv_icmp_gt B.1 B.2.1 d ht (fun h => ?_) (fun h => ?_)
  · rw [if_pos h] at h0; exact k1 h h0 H locs ls hH hz hf hL
  · rw [if_neg h] at h0; exact k2 h h0 H locs ls hH hz hf hL
theorem zk_icmp_le (B : z_B X F own cc nL ret) {x y : Int32} {K2 : Option β} {off : Int} {tgt : Nat} (d : decode cc pc = .ok (.if_icmp .le off, 3)) (ht : (pc : Int) + off = (tgt : Int)) (k1 : x ≤ y → z_K X F nL mc ms G cv b0 k n tgt loc st M K) (k2 : ¬ (x ≤ y) → z_K X F nL mc ms G cv b0 k n (pc + 3) loc st M K2) : z_K X F nL mc ms G cv b0 k n pc loc (.int y :: .int x :: st) M (if x ≤ y then K else K2) := by
  intro h0 H locs ls hH hz hf hL
  refine lv_icmp_le B.1 B.2.1 d ht (fun h => ?_) (fun h => ?_)
  · rw [if_pos h] at h0; exact k1 h h0 H locs ls hH hz hf hL
  · rw [if_neg h] at h0; exact k2 h h0 H locs ls hH hz hf hL
theorem zk_iret (B : z_B X F own cc nL ret) {v : Int32} {ty : FieldType} {b : β} (d : decode cc pc = .ok (.ireturn, 1)) (hr : ret = some ty) (hn : narrow ty (.int v) = .int v) (hk : k ≤ mc) (hs : n ≤ ms) (hb : cv b = (.ok (some (.int v)), M)) : z_K X F nL mc ms G cv b0 k n pc loc [.int v] M (some b) := by
  intro h0 H locs ls hH hz hf hL
  cases Option.some.inj h0
  refine W.widen hk hs (vx_ret (W.zret B.1 B.2.1 (B.2.2.2.1.trans hr) hn (fun t ht hW => ?_) hf d B.2.2.2.2.2.2.1))
  exact ⟨by rw [ht]; exact hz, some (.int v), G, M, rfl, ⟨rfl, hb.symm⟩, by rw [ht]; exact hH⟩
theorem zk_vret (B : z_B X F own cc nL ret) {b : β} (d : decode cc pc = .ok (.return_, 1)) (hr : ret = none) (hk : k ≤ mc) (hs : n ≤ ms) (hb : cv b = (.ok none, M)) : z_K X F nL mc ms G cv b0 k n pc loc [] M (some b) := by
  intro h0 H locs ls hH hz hf hL
  cases Option.some.inj h0
  refine W.widen hk hs (vx_ret (W.vret B.1 B.2.1 (B.2.2.2.1.trans hr) (fun t ht hW => ?_) hf d B.2.2.2.2.2.2.1))
  exact ⟨by rw [ht]; exact hz, none, G, M, rfl, ⟨rfl, hb.symm⟩, by rw [ht]; exact hH⟩
theorem zk_aret (B : z_B X F own cc nL ret) {a : Nat} {nm : String} {b : β} (d : decode cc pc = .ok (.areturn, 1)) (hr : ret = some (.object nm)) (hk : k ≤ mc) (hs : n ≤ ms) (hb : cv b = (.ok (some (.ref a)), M)) : z_K X F nL mc ms G cv b0 k n pc loc [.ref a] M (some b) := by
  intro h0 H locs ls hH hz hf hL
  cases Option.some.inj h0
  refine W.widen hk hs (vx_ret (W.aret B.1 B.2.1 (B.2.2.2.1.trans hr) (Or.inl ⟨nm, rfl⟩) (Or.inr ⟨a, rfl⟩) (fun t ht hW => ?_) hf d B.2.2.2.2.2.2.1))
  exact ⟨by rw [ht]; exact hz, some (.ref a), G, M, rfl, ⟨rfl, hb.symm⟩, by rw [ht]; exact hH⟩
end ZR1
