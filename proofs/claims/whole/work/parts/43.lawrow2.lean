/-! ===== rows of the law's body: the script, doubles, calls that answer doubles and floats ===== -/
section ZRM
variable {X : z_X} {F : z_F} {own : String} {cc : ByteArray} {nL mc ms : Nat} {ret : Option FieldType} {G : z_Gr} {β : Type} {cv : β → z_O × z_Mem} {b0 : β} {k n pc : Nat} {loc loc' : List (Nat × Value)} {st st0 rest : List Value} {M : z_Mem} {K : Option β} {mc' ms' : Nat} {av : Array Value}
theorem zk_sld (B : z_B X F own cc nL ret) {b L : Nat} {xs : Nat → Int32} (hx : va_X b L xs X.2.1 X.2.1.heap) (hb : b < z_o X) {i : Int32} (d : decode cc pc = .ok (.iaload, 1)) (kk : z_K X F nL mc ms G cv b0 k n (pc + 1) loc (.int (xs i.toNatClampNeg) :: st) M K) : z_K X F nL mc ms G cv b0 k n pc loc (.int i :: .ref b :: st) M (if z_inb i L then K else none) := by
  refine zk_chk fun hin h0 H locs ls hH hz hl hL => ?_
  obtain ⟨scr, h1, h2, h3, h4, h5⟩ := hx
  have hlt : i.toNatClampNeg < L := Nat.not_le.mp fun q => hin (Or.inr q)
  exact W.iald (v := .int (xs i.toNatClampNeg)) B.1 B.2.1 (by rw [hH.1.2 b hb]; exact h1) (State.isArrayOf_alike B.2.2.2.2.2.2.2.2.1.alike h2) h3 (by rw [h4]; exact hin) (h5 _ hlt) rfl rfl d (kk h0 H locs ls hH hz hl hL)
theorem zk_slen (B : z_B X F own cc nL ret) {b L : Nat} {xs : Nat → Int32} (hx : va_X b L xs X.2.1 X.2.1.heap) (hb : b < z_o X) (d : decode cc pc = .ok (.arraylength, 1)) (kk : z_K X F nL mc ms G cv b0 k n (pc + 1) loc (.int (Int32.ofNat L) :: st) M K) : z_K X F nL mc ms G cv b0 k n pc loc (.ref b :: st) M K := by
  intro h0 H locs ls hH hz hl hL
  obtain ⟨scr, h1, h2, h3, h4, h5⟩ := hx
  exact W.alen (n := Int32.ofNat L) B.1 B.2.1 (by rw [hH.1.2 b hb]; exact h1) (State.isArrayOf_alike B.2.2.2.2.2.2.2.2.1.alike h2) (by rw [h4] <;> rfl) rfl rfl d (kk h0 H locs ls hH hz hl hL)
theorem zk_dcmp (B : z_B X F own cc nL ret) {x y : UInt64} {op : CmpOp} (d : decode cc pc = .ok (.dcmp op, 1)) (kk : z_K X F nL mc ms G cv b0 k n (pc + 1) loc (.int (Op.cmpValue (FP.dcmp x y) op) :: st) M K) : z_K X F nL mc ms G cv b0 k n pc loc (.double y :: .double x :: st) M K :=
  fun h0 H locs ls hH hz hl hL => lv_dcmp B.1 B.2.1 d (kk h0 H locs ls hH hz hl hL)
theorem zk_f2d (B : z_B X F own cc nL ret) {x : UInt32} (d : decode cc pc = .ok (.f2d, 1)) (kk : z_K X F nL mc ms G cv b0 k n (pc + 1) loc (.double (FP.f2d x) :: st) M K) : z_K X F nL mc ms G cv b0 k n pc loc (.float x :: st) M (if FP.Core.dIsNaN (FP.f2d x) = false then K else none) :=
  zk_chk fun hn h0 H locs ls hH hz hl hL => lv_f2d B.1 B.2.1 d (z_nz64 hn) (kk h0 H locs ls hH hz hl hL)
theorem zk_dload (B : z_B X F own cc nL ret) {i : Nat} {x : UInt64} (d : decode cc pc = .ok (.dload i, 2)) (r : Nat) (hl : loc[r]? = some (i, .double x)) (kk : z_K X F nL mc ms G cv b0 k n (pc + 2) loc (.double x :: st) M K) : z_K X F nL mc ms G cv b0 k n pc loc st M K :=
  fun h0 H locs ls hH hz hf hL => lv_dload B.1 B.2.1 d (lv_at hL r hl) (kk h0 H locs ls hH hz hf hL)
theorem zk_dstore (B : z_B X F own cc nL ret) {i : Nat} {x : UInt64} (d : decode cc pc = .ok (.dstore i, 2)) (hn : i + 1 < nL) (hl : (i, Value.double x) :: loc.filter (fun q => !(q.1 == i) && (!(q.1 == i + 1) && !(q.1 + 1 == i && q.2.category == 2))) = loc') (kk : z_K X F nL mc ms G cv b0 k n (pc + 2) loc' st M K) : z_K X F nL mc ms G cv b0 k n pc loc (.double x :: st) M K :=
  fun h0 H locs ls hH hz hf hL => lv_dstore B.1 B.2.1 d hL hn hl (fun ls' hL' => kk h0 H locs ls' hH hz hf hL')
theorem zk_cdp (B : z_B X F own cc nL ret) {Kc : Option UInt64} {f : UInt64 → Option β} {k' n' : Nat} (hk' : k + mc' = k') (hn' : n + ms' = n') (hk : k' ≤ mc) (hs : n' ≤ ms)
    (hrun : ∀ b, Kc = some b → z_Run X F nL k n pc loc st0 rest G M mc' ms' av (fun o G' M' => G' = G ∧ (o, M') = z_cd M b))
    (kk : ∀ r, z_K X F nL mc ms G cv b0 k' n' (pc + 3) loc (.double r :: rest) M (f r)) : z_K X F nL mc ms G cv b0 k n pc loc st0 M (zb Kc f) := by
  subst hk'; subst hn'
  refine zk_call B (Or.inr (fun b e M1 h => by cases h)) hrun (fun b hb v M1 h => ?_) (fun b e M1 h => by cases h) hk hs
  cases h
  exact kk b
theorem zk_cdm (B : z_B X F own cc nL ret) {Kc : Option (UInt64 × z_Mem)} {f : UInt64 → z_Mem → Option β} {k' n' : Nat} (hk' : k + mc' = k') (hn' : n + ms' = n') (hk : k' ≤ mc) (hs : n' ≤ ms)
    (hrun : ∀ b, Kc = some b → z_Run X F nL k n pc loc st0 rest G M mc' ms' av (fun o G' M' => G' = G ∧ (o, M') = z_cdm b))
    (kk : ∀ r M1, z_K X F nL mc ms G cv b0 k' n' (pc + 3) loc (.double r :: rest) M1 (f r M1)) : z_K X F nL mc ms G cv b0 k n pc loc st0 M (zb2 Kc f) := by
  subst hk'; subst hn'
  rw [zb2_eq]
  refine zk_call B (Or.inr (fun b e M1 h => by cases h)) hrun (fun b hb v M1 h => ?_) (fun b e M1 h => by cases h) hk hs
  cases h
  exact kk b.1 b.2
theorem zk_cfp (B : z_B X F own cc nL ret) {Kc : Option UInt32} {f : UInt32 → Option β} {k' n' : Nat} (hk' : k + mc' = k') (hn' : n + ms' = n') (hk : k' ≤ mc) (hs : n' ≤ ms)
    (hrun : ∀ b, Kc = some b → z_Run X F nL k n pc loc st0 rest G M mc' ms' av (fun o G' M' => G' = G ∧ (o, M') = z_cf M b))
    (kk : ∀ r, z_K X F nL mc ms G cv b0 k' n' (pc + 3) loc (.float r :: rest) M (f r)) : z_K X F nL mc ms G cv b0 k n pc loc st0 M (zb Kc f) := by
  subst hk'; subst hn'
  refine zk_call B (Or.inr (fun b e M1 h => by cases h)) hrun (fun b hb v M1 h => ?_) (fun b e M1 h => by cases h) hk hs
  cases h
  exact kk b
theorem zk_cfm (B : z_B X F own cc nL ret) {Kc : Option (UInt32 × z_Mem)} {f : UInt32 → z_Mem → Option β} {k' n' : Nat} (hk' : k + mc' = k') (hn' : n + ms' = n') (hk : k' ≤ mc) (hs : n' ≤ ms)
    (hrun : ∀ b, Kc = some b → z_Run X F nL k n pc loc st0 rest G M mc' ms' av (fun o G' M' => G' = G ∧ (o, M') = z_cfm b))
    (kk : ∀ r M1, z_K X F nL mc ms G cv b0 k' n' (pc + 3) loc (.float r :: rest) M1 (f r M1)) : z_K X F nL mc ms G cv b0 k n pc loc st0 M (zb2 Kc f) := by
  subst hk'; subst hn'
  rw [zb2_eq]
  refine zk_call B (Or.inr (fun b e M1 h => by cases h)) hrun (fun b hb v M1 h => ?_) (fun b e M1 h => by cases h) hk hs
  cases h
  exact kk b.1 b.2
end ZRM
