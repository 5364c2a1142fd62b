/-! ===== the lite rows: throws, switches, the static arrays, Math ===== -/
theorem z_low.A {X : z_X} {H : Heap} (h : z_low X H) : ∀ a : Nat, a < X.2.1.heap.size → ¬ z_A X a → H[a]? = X.2.1.heap[a]? := fun a ha _ => h.2 a ha
section ZR4
variable {X : z_X} {F : z_F} {own : String} {cc : ByteArray} {nL mc ms : Nat} {ret : Option FieldType} {G : z_Gr} {β : Type} {cv : β → z_O × z_Mem} {b0 : β} {k n pc : Nat} {loc loc' : List (Nat × Value)} {st : List Value} {M : z_Mem} {K : Option β} {rm0 : Room}
theorem zk_tin (B : z_B X F own cc nL ret) {dflt lo hi : Int} {offs : Array Int} {len : Nat} {x v : Int32} {off : Int} {tgt : Nat} (d : decode cc pc = .ok (.tableswitch dflt lo hi offs, len)) (hx : x = v) (h1 : ¬ v.toInt < lo) (h2 : ¬ hi < v.toInt) (ho : offs[(v.toInt - lo).toNat]? = some off) (ht : (pc : Int) + off = (tgt : Int)) (kk : z_K X F nL mc ms G cv b0 k n tgt loc st M K) : z_K X F nL mc ms G cv b0 k n pc loc (.int x :: st) M K := by
  subst hx
  exact fun h0 H locs ls hH hz hf hL => lv_tableIn B.1 B.2.1 d h1 h2 ho ht (kk h0 H locs ls hH hz hf hL)
theorem zk_tout (B : z_B X F own cc nL ret) {dflt lo hi : Int} {offs : Array Int} {len : Nat} {x : Int32} {tgt : Nat} (d : decode cc pc = .ok (.tableswitch dflt lo hi offs, len)) (h : x.toInt < lo ∨ hi < x.toInt) (ht : (pc : Int) + dflt = (tgt : Int)) (kk : z_K X F nL mc ms G cv b0 k n tgt loc st M K) : z_K X F nL mc ms G cv b0 k n pc loc (.int x :: st) M K :=
  fun h0 H locs ls hH hz hf hL => lv_tableOut B.1 B.2.1 d h ht (kk h0 H locs ls hH hz hf hL)
theorem zk_max (B : z_B X F own cc nL ret) (hR : F.2.2.1 = rm0) {ix : Nat} {x y : Int32} (hlk : Cond.methodLink own ix Lib.Math.max.name ∈ z_tbl) (hst : Cond.static Lib.Math.max.name ∈ z_tbl) (hin : Cond.initialized "java/lang/Math" ∈ z_tbl) (hco : Cond.code Lib.Math.max.name Lib.Math.max.code 2 (some .int) ∈ z_tbl) (h1 : 1 ≤ rm0.frames) (h2 : (st.map fun v => v.category).sum + 13 ≤ rm0.locals) (h3 : k ≤ rm0.cells) (h4 : n ≤ rm0.slots) (d : decode cc pc = .ok (.invokestatic ix, 3)) (kk : z_K X F nL mc ms G cv b0 k n (pc + 3) loc (.int (if x < y then y else x) :: st) M K) : z_K X F nL mc ms G cv b0 k n pc loc (.int y :: .int x :: st) M K :=
  fun h0 H locs ls hH hz hf hL => va_mmax B.1 B.2.1 (B.2.2.1.trans hL.1.symm) B.2.2.2.2.1 (B.2.2.2.2.2.1 _ hlk) (B.2.2.2.2.2.1 _ hst) (B.2.2.2.2.2.1 _ hin) (B.2.2.2.2.2.1 _ hco) (by rw [hR]; exact h1) (by rw [hR]; exact h2) (by rw [hR]; exact h3) (by rw [hR]; exact h4) d (kk h0 H locs ls hH hz hf hL)
theorem zk_min (B : z_B X F own cc nL ret) (hR : F.2.2.1 = rm0) {ix : Nat} {x y : Int32} (hlk : Cond.methodLink own ix Lib.Math.min.name ∈ z_tbl) (hst : Cond.static Lib.Math.min.name ∈ z_tbl) (hin : Cond.initialized "java/lang/Math" ∈ z_tbl) (hco : Cond.code Lib.Math.min.name Lib.Math.min.code 2 (some .int) ∈ z_tbl) (h1 : 1 ≤ rm0.frames) (h2 : (st.map fun v => v.category).sum + 13 ≤ rm0.locals) (h3 : k ≤ rm0.cells) (h4 : n ≤ rm0.slots) (d : decode cc pc = .ok (.invokestatic ix, 3)) (kk : z_K X F nL mc ms G cv b0 k n (pc + 3) loc (.int (if y < x then y else x) :: st) M K) : z_K X F nL mc ms G cv b0 k n pc loc (.int y :: .int x :: st) M K :=
  fun h0 H locs ls hH hz hf hL => va_mmin B.1 B.2.1 (B.2.2.1.trans hL.1.symm) B.2.2.2.2.1 (B.2.2.2.2.2.1 _ hlk) (B.2.2.2.2.2.1 _ hst) (B.2.2.2.2.2.1 _ hin) (B.2.2.2.2.2.1 _ hco) (by rw [hR]; exact h1) (by rw [hR]; exact h2) (by rw [hR]; exact h3) (by rw [hR]; exact h4) d (kk h0 H locs ls hH hz hf hL)
theorem z_B.ok (B : z_B X F own cc nL ret) : z_ok X := B.2.2.2.2.2.2.2.2.2.2
theorem zk_gets (B : z_B X F own cc nL ret) (i : Nat) (hi : i < 3) {ix : Nat} (hlk : Cond.fieldLink own ix RX11 (z_sn i) "[I" ∈ z_tbl) (d : decode cc pc = .ok (.getstatic ix, 3)) (kk : z_K X F nL mc ms G cv b0 k n (pc + 3) loc (.ref (X.2.2.2.2 (1000 + i)) :: st) M K) : z_K X F nL mc ms G cv b0 k n pc loc st M K :=
  fun h0 H locs ls hH hz hf hL => va_gets (A := z_A X) B.1 B.2.1 (((B.ok.2.2.2.2.2.1 i hi).1.moved B.2.2.2.2.2.2.2.2.1.alike).kept B.2.2.2.2.2.2.2.2.2.1.A) (hH.1.S B hz hf) B.2.2.2.2.1 (B.2.2.2.2.2.1 _ hlk) (fun _ h => h) d (kk h0 H locs ls hH hz hf hL)
theorem zk_getsN (B : z_B X F own cc nL ret) (i : Nat) (hi : i < 3) {ix : Nat} (hlk : Cond.fieldLinkNest own ix RX11 (z_sn i) "[I" RX11 ∈ z_nest) (d : decode cc pc = .ok (.getstatic ix, 3)) (kk : z_K X F nL mc ms G cv b0 k n (pc + 3) loc (.ref (X.2.2.2.2 (1000 + i)) :: st) M K) : z_K X F nL mc ms G cv b0 k n pc loc st M K :=
  fun h0 H locs ls hH hz hf hL => va_getsN (A := z_A X) B.1 B.2.1 (((B.ok.2.2.2.2.2.1 i hi).1.moved B.2.2.2.2.2.2.2.2.1.alike).kept B.2.2.2.2.2.2.2.2.2.1.A) (hH.1.S B hz hf) B.2.2.2.2.1 (va_Nw.use rfl (va_Nw.warmF B.2.2.2.2.2.2.2.2.1 (B.ok.2.2.2.2.1.1 _ hlk))) (fun _ h => h) d (kk h0 H locs ls hH hz hf hL)
/-- an element of a static array -/
theorem zk_tald (B : z_B X F own cc nL ret) (j : Nat) (hj : j < 3) {i : Int32} (d : decode cc pc = .ok (.iaload, 1)) (kk : z_K X F nL mc ms G cv b0 k n (pc + 1) loc (.int (z_sv j i.toNatClampNeg) :: st) M K) : z_K X F nL mc ms G cv b0 k n pc loc (.int i :: .ref (X.2.2.2.2 (1000 + j)) :: st) M (if z_inb i 10 then K else none) := by
  refine zk_chk fun hin h0 H locs ls hH hz hl hL => ?_
  obtain ⟨cell, h1, h2, h3, h4, h5, h6, h7⟩ := (B.ok.2.2.2.2.2.1 j hj).2
  have hlt : i.toNatClampNeg < 10 := Nat.not_le.mp fun q => hin (Or.inr q)
  exact W.iald (v := .int (z_sv j i.toNatClampNeg)) B.1 B.2.1 (by rw [hH.1.A _ (Array.getElem?_eq_some_iff.mp h1).1 h7]; exact h1) (State.isArrayOf_alike B.2.2.2.2.2.2.2.2.1.alike h2) h3 (fun hq => hin (hq.elim Or.inl (fun q => Or.inr (Nat.le_trans h4 q)))) (h6 _ hlt) rfl rfl d (kk h0 H locs ls hH hz hl hL)
end ZR4
theorem z_H.more {X : z_X} {G : z_Gr} {M : z_Mem} {H H1 : Heap} (hH : z_H X G M H) (hsz : H.size ≤ H1.size) (hq : ∀ q : Nat, q < H.size → H1[q]? = H[q]?) : z_H X G M H1 := by
  refine ⟨⟨Nat.le_trans hH.1.1 hsz, fun q hq' => by rw [hq q (Nat.lt_of_lt_of_le hq' hH.1.1)]; exact hH.1.2 q hq'⟩, fun a sh ha => ?_⟩
  obtain ⟨g1, g2⟩ := hH.2 a sh ha
  refine ⟨g1, g2.kept (hq a ?_)⟩
  cases sh with
  | inl ci =>
    obtain ⟨r, -, cell, e, -⟩ := g2
    exact (Array.getElem?_eq_some_iff.mp e).1
  | inr kn => exact (Array.getElem?_eq_some_iff.mp g2).1
theorem z_ne {x v : Int32} (h : ¬ x = v) {z : Int} (e : v.toInt = z) : x.toInt ≠ z := fun q => h (Int32.toInt_inj.mp (q.trans e.symm))
theorem z_nest_0 : Cond.fieldLinkNest RX0 45 RX11 (z_sn 0) "[I" RX11 ∈ z_nest := List.mem_cons_self
theorem z_nest_1 : Cond.fieldLinkNest RX7 100 RX11 (z_sn 1) "[I" RX11 ∈ z_nest := List.mem_cons_of_mem _ List.mem_cons_self
theorem z_nest_2 : Cond.fieldLinkNest RX7 104 RX11 (z_sn 2) "[I" RX11 ∈ z_nest := List.mem_cons_of_mem _ (List.mem_cons_of_mem _ List.mem_cons_self)
