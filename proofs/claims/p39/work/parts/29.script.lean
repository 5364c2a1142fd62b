/-! ===== rows of the script ===== -/
section ZRM
variable {X : z_X} {F : z_F} {own : String} {cc : ByteArray} {nL mc ms : Nat} {ret : Option FieldType} {G : z_Gr} {β : Type} {cv : β → z_O × z_Mem} {b0 : β} {k n pc : Nat} {loc loc' : List (Nat × Value)} {st st0 rest : List Value} {M : z_Mem} {K : Option β} {mc' ms' : Nat} {av : Array Value}
theorem zk_sld (B : z_B X F own cc nL ret) {b L : Nat} {xs : Nat → Int32} (hx : va_X b L xs X.2.1 X.2.1.heap) (hb : b < z_o X) {i : Int32} (d : decode cc pc = .ok (.iaload, 1)) (kk : z_K X F nL mc ms G cv b0 k n (pc + 1) loc (.int (xs i.toNatClampNeg) :: st) M K) : z_K X F nL mc ms G cv b0 k n pc loc (.int i :: .ref b :: st) M (if z_inb i L then K else none) := by
  refine zk_chk fun hin h0 H locs ls hH hz hl hL => ?_
  obtain ⟨scr, h1, h2, h3, h4, h5⟩ := hx
  have hlt : i.toNatClampNeg < L := Nat.not_le.mp fun q => hin (Or.inr q)
  exact W.iald (v := .int (xs i.toNatClampNeg)) B.1 B.2.1 (by rw [hH.1.2 b hb]; exact h1) (State.isArrayOf_alike B.2.2.2.2.2.2.2.2.1.alike h2) h3 (by rw [h4]; exact hin) (h5 _ hlt) rfl rfl d (kk h0 H locs ls hH hz hl hL)
theorem zk_slen (B : z_B X F own cc nL ret) {b L : Nat} {xs : Nat → Int32} (hx : va_X b L xs X.2.1 X.2.1.heap) (hb : b < z_o X) (d : decode cc pc = .ok (.arraylength, 1)) (kk : z_K X F nL mc ms G cv b0 k n (pc + 1) loc (.int (Int32.ofNat L) :: st) M K) : z_K X F nL mc ms G cv b0 k n pc loc (.ref b :: st) M K := by
  intro h0 H locs ls hH hz hl hL
  obtain ⟨scr, h1, h2, h3, h4, h5⟩ := hx
  exact W.alen (n := Int32.ofNat L) B.1 B.2.1 (by rw [hH.1.2 b hb]; exact h1) (State.isArrayOf_alike B.2.2.2.2.2.2.2.2.1.alike h2) (by rw [h4] <;> rfl) rfl rfl d (kk h0 H locs ls hH hz hl hL)
end ZRM
