/-! ===== feeds: rows over a world with one array more (by program), its walk ===== -/
def z_arr (M : z_Mem) (c : Nat) (w : Nat → Int32) : z_Mem := (fun b => if b = c then w else M.1 b, M.2)
theorem z_arr_at {M : z_Mem} {c : Nat} {w : Nat → Int32} : (z_arr M c w).1 c = w := if_pos rfl
theorem z_arr_ne {M : z_Mem} {c b : Nat} {w : Nat → Int32} (h : b ≠ c) : (z_arr M c w).1 b = M.1 b := if_neg h
theorem z_arr_w {M : z_Mem} {c k : Nat} {w : Nat → Int32} {v : Int32} : z_wI (z_arr M c w) c k v = z_arr M c (fun j => if j = k then v else w j) := by
  refine Prod.ext (funext fun b => funext fun j => ?_) rfl
  by_cases hb : b = c
  · subst hb
    show (if b = b ∧ j = k then v else (z_arr M b w).1 b j) = (z_arr M b _).1 b j
    rw [z_arr_at, z_arr_at]
    by_cases hj : j = k
    · rw [if_pos ⟨rfl, hj⟩, if_pos hj]
    · rw [if_neg (fun q => hj q.2), if_neg hj]
  · show (if b = c ∧ j = k then v else (z_arr M c w).1 b j) = (z_arr M c _).1 b j
    rw [if_neg (fun q => hb q.1), z_arr_ne hb, z_arr_ne hb]
theorem gN_ne {G : z_Gr} {c a : Nat} {sh s9 : z_Sh} (hc : G.1 c = none) (h : G.1 a = some s9) : (gN G c sh).1 a = some s9 ∧ a ≠ c := by
  have hne : a ≠ c := fun q => by rw [q, hc] at h; cases h
  exact ⟨(if_neg hne).trans h, hne⟩
section ZQ
variable {X : z_X} {F : z_F} {own : String} {cc : ByteArray} {nL mc ms : Nat} {ret : Option FieldType} {G : z_Gr} {Q : z_O → z_Gr → z_Mem → Prop} {k n pc : Nat} {loc loc' : List (Nat × Value)} {st : List Value} {M : z_Mem} {rm0 : Room}
theorem zq_iload_n (B : z_B X F own cc nL ret) {q : Fin 4} {x : Int32} {i : Nat} (d : decode cc pc = .ok (.iload_n q, 1)) (r : Nat) (hi : (q : Nat) = i) (hl : loc[r]? = some (i, .int x)) (kk : z_R X F nL mc ms Q k n (pc + 1) loc (.int x :: st) G M) : z_R X F nL mc ms Q k n pc loc st G M :=
  fun H locs ls hH hz hf hL => lv_iload_n B.1 B.2.1 d hi (lv_at hL r hl) (kk H locs ls hH hz hf hL)
theorem zq_iload (B : z_B X F own cc nL ret) {i : Nat} {x : Int32} (d : decode cc pc = .ok (.iload i, 2)) (r : Nat) (hl : loc[r]? = some (i, .int x)) (kk : z_R X F nL mc ms Q k n (pc + 2) loc (.int x :: st) G M) : z_R X F nL mc ms Q k n pc loc st G M :=
  fun H locs ls hH hz hf hL => lv_iload B.1 B.2.1 d (lv_at hL r hl) (kk H locs ls hH hz hf hL)
theorem zq_aload_n (B : z_B X F own cc nL ret) {q : Fin 4} {x : Nat} {i : Nat} (d : decode cc pc = .ok (.aload_n q, 1)) (r : Nat) (hi : (q : Nat) = i) (hl : loc[r]? = some (i, .ref x)) (kk : z_R X F nL mc ms Q k n (pc + 1) loc (.ref x :: st) G M) : z_R X F nL mc ms Q k n pc loc st G M :=
  fun H locs ls hH hz hf hL => lv_aload_n B.1 B.2.1 d hi (lv_at hL r hl) (kk H locs ls hH hz hf hL)
theorem zq_istore_n (B : z_B X F own cc nL ret) {q : Fin 4} {i : Nat} {x : Int32} (d : decode cc pc = .ok (.istore_n q, 1)) (hi : (q : Nat) = i) (hn : i < nL) (hl : (i, Value.int x) :: loc.filter (fun q => !(q.1 == i) && !(q.1 + 1 == i && q.2.category == 2)) = loc') (kk : z_R X F nL mc ms Q k n (pc + 1) loc' st G M) : z_R X F nL mc ms Q k n pc loc (.int x :: st) G M :=
  fun H locs ls hH hz hf hL => lv_istore_n B.1 B.2.1 d hi hL hn hl (fun ls' hL' => kk H locs ls' hH hz hf hL')
theorem zq_istore (B : z_B X F own cc nL ret) {i : Nat} {x : Int32} (d : decode cc pc = .ok (.istore i, 2)) (hn : i < nL) (hl : (i, Value.int x) :: loc.filter (fun q => !(q.1 == i) && !(q.1 + 1 == i && q.2.category == 2)) = loc') (kk : z_R X F nL mc ms Q k n (pc + 2) loc' st G M) : z_R X F nL mc ms Q k n pc loc (.int x :: st) G M :=
  fun H locs ls hH hz hf hL => lv_istore B.1 B.2.1 d hL hn hl (fun ls' hL' => kk H locs ls' hH hz hf hL')
theorem zq_astore_n (B : z_B X F own cc nL ret) {q : Fin 4} {i : Nat} {x : Nat} (d : decode cc pc = .ok (.astore_n q, 1)) (hi : (q : Nat) = i) (hn : i < nL) (hl : (i, Value.ref x) :: loc.filter (fun q => !(q.1 == i) && !(q.1 + 1 == i && q.2.category == 2)) = loc') (kk : z_R X F nL mc ms Q k n (pc + 1) loc' st G M) : z_R X F nL mc ms Q k n pc loc (.ref x :: st) G M :=
  fun H locs ls hH hz hf hL => lv_astore_n B.1 B.2.1 d hi hL hn hl (fun ls' hL' => kk H locs ls' hH hz hf hL')
theorem zq_iconst (B : z_B X F own cc nL ret) {w : Int} {v : Int32} (d : decode cc pc = .ok (.iconst w, 1)) (hv : Int32.ofInt w = v) (kk : z_R X F nL mc ms Q k n (pc + 1) loc (.int v :: st) G M) : z_R X F nL mc ms Q k n pc loc st G M :=
  fun H locs ls hH hz hf hL => lv_iconst B.1 B.2.1 d hv (kk H locs ls hH hz hf hL)
theorem zq_bipush (B : z_B X F own cc nL ret) {w : Int} {v : Int32} (d : decode cc pc = .ok (.bipush w, 2)) (hv : (Int8.ofInt w).toInt32 = v) (kk : z_R X F nL mc ms Q k n (pc + 2) loc (.int v :: st) G M) : z_R X F nL mc ms Q k n pc loc st G M :=
  fun H locs ls hH hz hf hL => lv_bipush B.1 B.2.1 d hv (kk H locs ls hH hz hf hL)
theorem zq_iadd (B : z_B X F own cc nL ret) {x y : Int32} (d : decode cc pc = .ok (.iadd, 1)) (kk : z_R X F nL mc ms Q k n (pc + 1) loc (.int (x + y) :: st) G M) : z_R X F nL mc ms Q k n pc loc (.int y :: .int x :: st) G M :=
  fun H locs ls hH hz hf hL => lv_iadd B.1 B.2.1 d (kk H locs ls hH hz hf hL)
theorem zq_ior (B : z_B X F own cc nL ret) {x y : Int32} (d : decode cc pc = .ok (.ior, 1)) (kk : z_R X F nL mc ms Q k n (pc + 1) loc (.int (x ||| y) :: st) G M) : z_R X F nL mc ms Q k n pc loc (.int y :: .int x :: st) G M :=
  fun H locs ls hH hz hf hL => lv_ior B.1 B.2.1 d (kk H locs ls hH hz hf hL)
theorem zq_ishl (B : z_B X F own cc nL ret) {x y : Int32} (d : decode cc pc = .ok (.ishl, 1)) (kk : z_R X F nL mc ms Q k n (pc + 1) loc (.int (x <<< (y &&& 31)) :: st) G M) : z_R X F nL mc ms Q k n pc loc (.int y :: .int x :: st) G M :=
  fun H locs ls hH hz hf hL => lv_ishl B.1 B.2.1 d (kk H locs ls hH hz hf hL)
theorem zq_idiv (B : z_B X F own cc nL ret) {x y : Int32} (d : decode cc pc = .ok (.idiv, 1)) (hy : ¬ y = 0) (kk : z_R X F nL mc ms Q k n (pc + 1) loc (.int (x / y) :: st) G M) : z_R X F nL mc ms Q k n pc loc (.int y :: .int x :: st) G M :=
  fun H locs ls hH hz hf hL => lv_idiv B.1 B.2.1 d hy (kk H locs ls hH hz hf hL)
theorem zq_goto (B : z_B X F own cc nL ret) {off : Int} {tgt : Nat} (d : decode cc pc = .ok (.goto off, 3)) (ht : (pc : Int) + off = (tgt : Int)) (kk : z_R X F nL mc ms Q k n tgt loc st G M) : z_R X F nL mc ms Q k n pc loc st G M :=
  fun H locs ls hH hz hf hL => lv_goto B.1 B.2.1 d ht (kk H locs ls hH hz hf hL)
theorem zq_get (B : z_B X F own cc nL ret) {ci N : Nat} {C : String} {T : u_T} (hc : z_cl ci C T N) {a : Nat} (hg : G.1 a = some (.inl ci)) (f : Nat) (hf : f < N) {ix : Nat} (hlk : Cond.fieldLink own ix (T f).1 (T f).2.1 (T f).2.2.1 ∈ z_tbl) (d : decode cc pc = .ok (.getfield ix, 3)) (kk : z_R X F nL mc ms Q k n (pc + 3) loc (z_fv (z_ty ci f) M G.2 a f :: st) G M) : z_R X F nL mc ms Q k n pc loc (.ref a :: st) G M := by
  intro H locs ls hH hz hl hL
  obtain ⟨r, h1, cell, q1, q2, q3, q4⟩ := (hH.2 a _ hg).2
  have hr : r = (C, T, N) := Option.some.inj (h1.symm.trans hc.1)
  subst hr
  obtain ⟨hS, hfc, kC, hkC, hkind⟩ := B.K.1 ci _ hc.1
  obtain ⟨cf, kf, fi, fd, hi, hsl⟩ := hS f hf
  refine W.getf B.1 B.2.1 B.2.2.2.2.1 (B.2.2.2.2.2.1 _ hlk) hi (u_facts hfc hkC (u_lays B.2.2.2.2.2.1 hc.2.1 hf) hi).1 q1 (by rw [q3]; exact fun h => by cases h) (v := z_fv (z_ty ci f) M G.2 a f) ?_ rfl rfl d (kk H locs ls hH hz hl hL)
  rw [hsl, q4 f hf]
theorem zq_geti (B : z_B X F own cc nL ret) {ci N : Nat} {C : String} {T : u_T} (hc : z_cl ci C T N) {a : Nat} (hg : G.1 a = some (.inl ci)) (f : Nat) (hf : f < N) {ix : Nat} (hlk : Cond.fieldLink own ix (T f).1 (T f).2.1 (T f).2.2.1 ∈ z_tbl) (hI : z_isI (z_ty ci f) = true) (d : decode cc pc = .ok (.getfield ix, 3)) (kk : z_R X F nL mc ms Q k n (pc + 3) loc (.int (M.1 a f) :: st) G M) : z_R X F nL mc ms Q k n pc loc (.ref a :: st) G M :=
  zq_get B hc hg f hf hlk d (by rw [z_fv_I hI]; exact kk)
theorem zq_getr (B : z_B X F own cc nL ret) {ci N : Nat} {C : String} {T : u_T} (hc : z_cl ci C T N) {a b : Nat} (hg : G.1 a = some (.inl ci)) (f : Nat) (hf : f < N) {ix : Nat} (hlk : Cond.fieldLink own ix (T f).1 (T f).2.1 (T f).2.2.1 ∈ z_tbl) (hI : z_isR (z_ty ci f) = true) (hr : G.2 a f = some b) (d : decode cc pc = .ok (.getfield ix, 3)) (kk : z_R X F nL mc ms Q k n (pc + 3) loc (.ref b :: st) G M) : z_R X F nL mc ms Q k n pc loc (.ref a :: st) G M :=
  zq_get B hc hg f hf hlk d (by rw [z_fv_R hI, hr]; exact kk)
theorem zq_sub (ks : List Nat) (hl : lv_pick loc ks = loc') (kk : z_R X F nL mc ms Q k n pc loc' st G M) : z_R X F nL mc ms Q k n pc loc st G M :=
  fun H locs ls hH hz hf hL => kk H locs ls hH hz hf (lv_sub hL ks hl)
theorem zq_iald (B : z_B X F own cc nL ret) {a N : Nat} (hg : G.1 a = some (.inr (0, N))) {i : Int32} (hin : z_inb i N) (d : decode cc pc = .ok (.iaload, 1)) (kk : z_R X F nL mc ms Q k n (pc + 1) loc (.int (M.1 a i.toNatClampNeg) :: st) G M) : z_R X F nL mc ms Q k n pc loc (.int i :: .ref a :: st) G M :=
  fun H locs ls hH hz hl hL => va_iald (f := M.1 a) (n := N) (ws := [(a, .inl (X.2.2.2.1 0, N, .inl (M.1 a)))]) B.1 B.2.1 B.K (fun j q hj => by
    match j, hj with
    | 0, hj => cases hj; exact (hH.2 a _ hg).2) 0 0 rfl (z_tys_at (kd := 0) (by omega)) hin d (kk H locs ls hH hz hl hL)
theorem zq_iast (B : z_B X F own cc nL ret) {a N : Nat} (hg : G.1 a = some (.inr (0, N))) {i x : Int32} (hin : z_inb i N) (d : decode cc pc = .ok (.iastore, 1)) (kk : z_R X F nL mc ms Q k n (pc + 1) loc st G (z_wI M a i.toNatClampNeg x)) : z_R X F nL mc ms Q k n pc loc (.int x :: .int i :: .ref a :: st) G M := by
  intro H locs ls hH hz hl hL
  obtain ⟨ha, hh⟩ := hH.2 a _ hg
  refine W.iast B.1 B.2.1 hh ((B.K.2 0 _ (z_tys_at (kd := 0) (by omega))).1 N (fun j => .int (M.1 a j))) (fun q => by cases q) (by show ¬ (i < 0 ∨ (arrV _ _ _).slots.size ≤ _); rw [arrV_size]; exact hin) rfl rfl d fun H1 e z oq => ?_
  refine kk H1 _ ls (hH.put hg z oq (fun b hb => z_wI_off hb) (fun b _ => rfl) ?_) (by rw [z]; exact hz) (z_locs hl ha) hL
  show H1[a]? = some (vp_cell _ _)
  rw [e]
  show some ((vp_cell _ (N, .inl (M.1 a))).setSlot _ _) = some (vp_cell _ (N, .inl ((z_wI M a i.toNatClampNeg x).1 a)))
  rw [vp_cell_i, vp_cell_i, arrV_store]
  congr 2
  funext q
  by_cases hq : q = i.toNatClampNeg
  · subst hq
    simp [updV, z_wI]
  · simp [updV, z_wI, hq]
theorem zq_icmp_ge (B : z_B X F own cc nL ret) {x y : Int32} {off : Int} {tgt : Nat} (d : decode cc pc = .ok (.if_icmp .ge off, 3)) (ht : (pc : Int) + off = (tgt : Int)) (k1 : y ≤ x → z_R X F nL mc ms Q k n tgt loc st G M) (k2 : ¬ (y ≤ x) → z_R X F nL mc ms Q k n (pc + 3) loc st G M) : z_R X F nL mc ms Q k n pc loc (.int y :: .int x :: st) G M :=
  fun H locs ls hH hz hf hL => lv_icmp_ge B.1 B.2.1 d ht (fun h => k1 h H locs ls hH hz hf hL) (fun h => k2 h H locs ls hH hz hf hL)
theorem zq_iinc (B : z_B X F own cc nL ret) {i : Nat} {w : Int} {x y : Int32} (d : decode cc pc = .ok (.iinc i w, 3)) (r : Nat) (hl : loc[r]? = some (i, .int x)) (hw : Int32.ofInt w = y) (hn : i < nL) (hl2 : (i, Value.int (x + y)) :: loc.filter (fun q => !(q.1 == i) && !(q.1 + 1 == i && q.2.category == 2)) = loc') (kk : z_R X F nL mc ms Q k n (pc + 3) loc' st G M) : z_R X F nL mc ms Q k n pc loc st G M :=
  fun H locs ls hH hz hf hL => lv_iinc (v := x + y) B.1 B.2.1 d hL hl (by rw [hw]) hn hl2 (fun ls' hL' => kk H locs ls' hH hz hf hL')
/-- an array is made: where, nobody needs to know -/
theorem zq_newI (B : z_B X F own cc nL ret) (hR : F.2.2.1 = rm0) {w : Int32} {N : Nat} (hac : Cond.arrayClass .int ∈ z_tbl) (hN : w.toNatClampNeg = N) (hw : ¬ w < 0) (hb : N * 4 ≤ 536870912) (h1 : k + 1 ≤ rm0.cells) (h2 : n + N ≤ rm0.slots) (d : decode cc pc = .ok (.newarray .int, 2))
    (kk : ∀ c : Nat, G.1 c = none → z_R X F nL mc ms Q (k + 1) (n + N) (pc + 2) loc (.ref c :: st) (gN G c (.inr (0, N))) (z_arr M c (fun _ => 0))) : z_R X F nL mc ms Q k n pc loc (.int w :: st) G M := by
  intro H locs ls hH hz hl hL
  have hn : G.1 H.size = none := by
    cases h : G.1 H.size with
    | none => rfl
    | some sh => exact absurd (hH.2 _ sh h).2.lt (Nat.lt_irrefl _)
  have hH' : z_H X G (z_arr M H.size (fun _ => 0)) H := ⟨hH.1, fun a sh ha => by
    obtain ⟨q1, q2⟩ := hH.2 a sh ha
    exact ⟨q1, q2.mem (z_arr_ne (Nat.ne_of_lt q2.lt)) rfl⟩⟩
  refine va_newaK (atype := .int) B.1 B.2.1 (B.2.2.2.2.2.1 (Cond.arrayClass .int) hac) rfl d rfl hw hN hb (by rw [hR]; exact h1) (by rw [hR]; exact h2) (rfl : H.size = H.size) fun H1 cA e1 z1 o1 hAr hNm => ?_
  have hA := (B.K.2 0 _ (z_tys_at (kd := 0) (by omega))).2
  have e : cA = X.2.2.2.1 0 := Option.some.inj (hNm.symm.trans hA)
  subst e
  refine kk H.size hn H1 locs ls (hH'.born (fun q hq => o1 q hq) (by omega) (fun a ha => if_neg ha) (fun a _ => rfl) (fun sh hsh => ?_)) (by omega) hl hL
  cases gN_n.symm.trans hsh
  show H1[H.size]? = some (vp_cell _ (N, .inl ((z_arr M H.size (fun _ => 0)).1 H.size)))
  rw [z_arr_at]
  exact e1
/-- .. and forgotten -/
theorem zq_drop {c : Nat} {sh : z_Sh} {w : Nat → Int32} (hc : G.1 c = none) (kk : z_R X F nL mc ms Q k n pc loc st G M) : z_R X F nL mc ms Q k n pc loc st (gN G c sh) (z_arr M c w) :=
  fun H locs ls hH hz hf hL => kk H locs ls ⟨hH.1, fun a s9 ha => by
    obtain ⟨e1, e2⟩ := gN_ne (sh := sh) hc ha
    obtain ⟨q1, q2⟩ := hH.2 a s9 e1
    exact ⟨q1, (q2.gr (G' := G) rfl).mem (z_arr_ne e2).symm rfl⟩⟩ hz hf hL
end ZQ
/-- the words of twenty bytes, as feeds makes them -/
def F_w8 (a : Nat) (v2 : Int32) : Nat → Int32 → (Nat → Int32) → z_Mem → Option (Nat → Int32)
  | 0, _, _, _ => none
  | n + 1, i, w, M => if 20 ≤ i then some w else
    if z_inb (i / 4) 5 then
      if M.1 a 1 ≤ v2 + i then F_w8 a v2 n (i + 1) (fun j => if j = (i / 4).toNatClampNeg then (w (i / 4).toNatClampNeg <<< (8 &&& 31)) ||| 32 else w j) M
      else if z_inb (v2 + i) 800 then F_w8 a v2 n (i + 1) (fun j => if j = (i / 4).toNatClampNeg then (w (i / 4).toNatClampNeg <<< (8 &&& 31)) ||| M.1 (a + 1) (v2 + i).toNatClampNeg else w j) M else none
    else none
def F_Law_feeds_L2 (o a : Nat) : Nat → Int32 → z_Mem → Option (Int32 × z_Mem)
  | 0, _, _ => none
  | n + 1, v2, M => if M.1 a 1 ≤ v2 then some (M.1 a 1, z_wI M a 1 0) else
    zb (F_w8 a v2 30 0 (fun _ => 0) M) fun w => zb2 (F_Sys_feed o (w 0) (w 1) (w 2) (w 3) (w 4) M) fun _ M1 => zl (v2 + 20) fun x => F_Law_feeds_L2 o a n x M1
def F_Law_feeds (o a : Nat) (M : z_Mem) : Option (Int32 × z_Mem) := F_Law_feeds_L2 o a 41 0 M

set_option maxHeartbeats 4000000 in
set_option maxRecDepth 100000 in
theorem m_Law_feeds {X : z_X} (hX : z_ok X) {G : z_Gr} {o : Nat} (hG : g_Sys G o) {a : Nat} (ha : g_Law G a) (M : z_Mem) (b : Int32 × z_Mem) (h : F_Law_feeds o a M = some b) : z_Ct X yL_feeds cL_feeds 5 (some .int) ({ frames := 2, cells := 41, slots := 246, locals := 47 } : Room) [.ref a, .ref o] G M (fun o9 G9 M9 => G9 = G ∧ (o9, M9) = z_cim b) := by
  refine z_enter hX (by decide) (Nat.le_of_ble_eq_true rfl) h (fun F B hR => ?_)
  have L17 : ∀ (nf : Nat) (c : Nat), G.1 c = none → ∀ (v2 : Int32) (M : z_Mem) (kc kn : Nat) (i : Int32) (w w' : Nat → Int32), F_w8 a v2 nf i w M = some w' →
      z_R X F 5 41 246 (fun o9 G9 M9 => G9 = G ∧ (o9, M9) = z_cim b) kc kn 71 [(3, .ref c), (2, .int v2), (0, .ref a), (1, .ref o)] [] (gN G c (.inr (0, 5))) (z_arr M c w') →
      z_R X F 5 41 246 (fun o9 G9 M9 => G9 = G ∧ (o9, M9) = z_cim b) kc kn 17 [(4, .int i), (3, .ref c), (2, .int v2), (0, .ref a), (1, .ref o)] [] (gN G c (.inr (0, 5))) (z_arr M c w) := by
    intro nf
    induction nf with
    | zero => intro c hc v2 M kc kn i w w' hw; cases hw
    | succ nf ih =>
      intro c hc v2 M kc kn i w w' hw kk
      have s0 := gN_ne (sh := .inr (0, 5)) hc (gLaw_s ha)
      have s1 := gN_ne (sh := .inr (0, 5)) hc (gLaw_t0 ha)
      have f0 : (gN G c (.inr (0, 5))).2 a 0 = some (a + 1) := gLaw_f0 (G := G) ha
      have eA : (z_arr M c w).1 a 1 = M.1 a 1 := congrFun (z_arr_ne s0.2) 1
      have eT : ∀ j, (z_arr M c w).1 (a + 1) j = M.1 (a + 1) j := fun j => congrFun (z_arr_ne s1.2) j
      have eC : ∀ j, (z_arr M c w).1 c j = w j := fun j => congrFun z_arr_at j
      unfold F_w8 at hw
      refine zq_iload (pc := 17) B dL_feeds_17 0 rfl ?_
      refine zq_bipush (v := 20) (pc := 19) B dL_feeds_19 (by decide) ?_
      refine zq_icmp_ge (tgt := 71) (pc := 21) B dL_feeds_21 (by decide) (fun h1 => ?_) (fun h1 => ?_)
      · rw [if_pos h1] at hw
        cases Option.some.inj hw
        exact zq_sub [1, 2, 3, 4] rfl kk
      · rw [if_neg h1] at hw
        by_cases h2 : z_inb (i / 4) 5
        · rw [if_pos h2] at hw
          refine zq_aload_n (pc := 24) B dL_feeds_24 1 rfl rfl ?_
          refine zq_iload (pc := 25) B dL_feeds_25 0 rfl ?_
          refine zq_iconst (v := 4) (pc := 27) B dL_feeds_27 (by decide) ?_
          refine zq_idiv (pc := 28) B dL_feeds_28 (by decide) ?_
          refine zq_aload_n (pc := 29) B dL_feeds_29 1 rfl rfl ?_
          refine zq_iload (pc := 30) B dL_feeds_30 0 rfl ?_
          refine zq_iconst (v := 4) (pc := 32) B dL_feeds_32 (by decide) ?_
          refine zq_idiv (pc := 33) B dL_feeds_33 (by decide) ?_
          refine zq_iald (pc := 34) B gN_n h2 dL_feeds_34 ?_
          refine zq_bipush (v := 8) (pc := 35) B dL_feeds_35 (by decide) ?_
          refine zq_ishl (pc := 37) B dL_feeds_37 ?_
          refine zq_iload_n (pc := 38) B dL_feeds_38 2 rfl rfl ?_
          refine zq_iload (pc := 39) B dL_feeds_39 0 rfl ?_
          refine zq_iadd (pc := 41) B dL_feeds_41 ?_
          refine zq_aload_n (pc := 42) B dL_feeds_42 3 rfl rfl ?_
          refine zq_geti (pc := 43) B kx_12 s0.1 1 (by decide) kf_L_19 rfl dL_feeds_43 ?_
          rw [eA, eC]
          refine zq_icmp_ge (tgt := 61) (pc := 46) B dL_feeds_46 (by decide) (fun h3 => ?_) (fun h3 => ?_)
          · rw [if_pos h3] at hw
            refine zq_bipush (v := 32) (pc := 61) B dL_feeds_61 (by decide) ?_
            refine zq_ior (pc := 63) B dL_feeds_63 ?_
            refine zq_iast (pc := 64) B gN_n h2 dL_feeds_64 ?_
            rw [z_arr_w]
            refine zq_iinc (y := 1) (loc' := [(4, .int (i + 1)), (3, .ref c), (2, .int v2), (0, .ref a), (1, .ref o)]) (pc := 65) B dL_feeds_65 0 rfl (by decide) (by decide) rfl ?_
            refine zq_goto (tgt := 17) (pc := 68) B dL_feeds_68 (by decide) ?_
            exact ih c hc v2 M kc kn (i + 1) _ w' hw kk
          · rw [if_neg h3] at hw
            by_cases h4 : z_inb (v2 + i) 800
            · rw [if_pos h4] at hw
              refine zq_aload_n (pc := 49) B dL_feeds_49 3 rfl rfl ?_
              refine zq_getr (pc := 50) B kx_12 s0.1 0 (by decide) kf_L_7 rfl f0 dL_feeds_50 ?_
              refine zq_iload_n (pc := 53) B dL_feeds_53 2 rfl rfl ?_
              refine zq_iload (pc := 54) B dL_feeds_54 0 rfl ?_
              refine zq_iadd (pc := 56) B dL_feeds_56 ?_
              refine zq_iald (pc := 57) B s1.1 h4 dL_feeds_57 ?_
              rw [eT]
              refine zq_goto (tgt := 63) (pc := 58) B dL_feeds_58 (by decide) ?_
              refine zq_ior (pc := 63) B dL_feeds_63 ?_
              refine zq_iast (pc := 64) B gN_n h2 dL_feeds_64 ?_
              rw [z_arr_w]
              refine zq_iinc (y := 1) (loc' := [(4, .int (i + 1)), (3, .ref c), (2, .int v2), (0, .ref a), (1, .ref o)]) (pc := 65) B dL_feeds_65 0 rfl (by decide) (by decide) rfl ?_
              refine zq_goto (tgt := 17) (pc := 68) B dL_feeds_68 (by decide) ?_
              exact ih c hc v2 M kc kn (i + 1) _ w' hw kk
            · rw [if_neg h4] at hw
              cases hw
        · rw [if_neg h2] at hw
          cases hw
  have L2 : ∀ (nf kc : Nat), kc + nf = 41 → ∀ (v2 : Int32) (M : z_Mem), z_K X F 5 41 246 G z_cim b kc (6 * kc) 2 [(2, .int v2), (0, .ref a), (1, .ref o)] [] M (F_Law_feeds_L2 o a nf v2 M) := by
    intro nf
    induction nf with
    | zero => intro kc _ v2 M; exact zk_none
    | succ nf ih =>
      intro kc hk v2 M
      unfold F_Law_feeds_L2
      refine zk_iload_n (pc := 2) B dL_feeds_2 0 rfl rfl ?_
      refine zk_aload_n (pc := 3) B dL_feeds_3 1 rfl rfl ?_
      refine zk_geti (pc := 4) B kx_12 (gLaw_s ha) 1 (by decide) kf_L_19 rfl dL_feeds_4 ?_
      refine zk_icmp_ge (tgt := 97) (pc := 7) B dL_feeds_7 (by decide) (fun _ => ?_) (fun _ => ?_)
      · refine zk_aload_n (pc := 97) B dL_feeds_97 1 rfl rfl ?_
        refine zk_geti (pc := 98) B kx_12 (gLaw_s ha) 1 (by decide) kf_L_19 rfl dL_feeds_98 ?_
        refine zk_istore_n (loc' := [(2, .int (M.1 a 1)), (0, .ref a), (1, .ref o)]) (pc := 101) B dL_feeds_101 rfl (by decide) rfl ?_
        refine zk_aload_n (pc := 102) B dL_feeds_102 1 rfl rfl ?_
        refine zk_iconst (v := 0) (pc := 103) B dL_feeds_103 (by decide) ?_
        refine zk_puti (pc := 104) B kx_12 (gLaw_s ha) 1 (by decide) kf_L_19 rfl rfl rfl rfl dL_feeds_104 ?_
        refine zk_iload_n (pc := 107) B dL_feeds_107 0 rfl rfl ?_
        exact zk_iret (pc := 108) B dL_feeds_108 rfl rfl (by omega) (by omega) rfl
      · intro h0
        obtain ⟨w', hw, h0⟩ := zb_some h0
        refine zq_iconst (v := 5) (pc := 10) B dL_feeds_10 (by decide) ?_
        refine zq_newI (pc := 11) (N := 5) B hR ka_int (by decide) (by decide) (by decide) (show kc + 1 ≤ 41 by omega) (show 6 * kc + 5 ≤ 246 by omega) dL_feeds_11 (fun c hc => ?_)
        refine zq_astore_n (loc' := [(3, .ref c), (2, .int v2), (0, .ref a), (1, .ref o)]) (pc := 13) B dL_feeds_13 rfl (by decide) rfl ?_
        refine zq_iconst (v := 0) (pc := 14) B dL_feeds_14 (by decide) ?_
        refine zq_istore (loc' := [(4, .int 0), (3, .ref c), (2, .int v2), (0, .ref a), (1, .ref o)]) (pc := 15) B dL_feeds_15 (by decide) rfl ?_
        refine L17 30 c hc v2 M (kc + 1) (6 * kc + 5) 0 _ w' hw ?_
        have eC : ∀ j, (z_arr M c w').1 c j = w' j := fun j => congrFun z_arr_at j
        refine zq_aload_n (pc := 71) B dL_feeds_71 3 rfl rfl ?_

        refine zq_aload_n (pc := 72) B dL_feeds_72 0 rfl rfl ?_
        refine zq_iconst (v := 0) (pc := 73) B dL_feeds_73 (by decide) ?_
        refine zq_iald (pc := 74) B gN_n (by decide) dL_feeds_74 ?_
        refine zq_aload_n (pc := 75) B dL_feeds_75 0 rfl rfl ?_
        refine zq_iconst (v := 1) (pc := 76) B dL_feeds_76 (by decide) ?_
        refine zq_iald (pc := 77) B gN_n (by decide) dL_feeds_77 ?_
        refine zq_aload_n (pc := 78) B dL_feeds_78 0 rfl rfl ?_
        refine zq_iconst (v := 2) (pc := 79) B dL_feeds_79 (by decide) ?_
        refine zq_iald (pc := 80) B gN_n (by decide) dL_feeds_80 ?_
        refine zq_aload_n (pc := 81) B dL_feeds_81 0 rfl rfl ?_
        refine zq_iconst (v := 3) (pc := 82) B dL_feeds_82 (by decide) ?_
        refine zq_iald (pc := 83) B gN_n (by decide) dL_feeds_83 ?_
        refine zq_aload_n (pc := 84) B dL_feeds_84 0 rfl rfl ?_
        refine zq_iconst (v := 4) (pc := 85) B dL_feeds_85 (by decide) ?_
        refine zq_iald (pc := 86) B gN_n (by decide) dL_feeds_86 ?_
        refine zq_drop hc ?_
        rw [eC, eC, eC, eC, eC]
        refine zq_sub (loc' := [(2, .int v2), (0, .ref a), (1, .ref o)]) [1, 2, 3] rfl ?_
        refine (zk_cim (mc' := 0) (ms' := 0) (k := kc + 1) (n := 6 * kc + 5) (pc := 87) (k' := kc + 1) (n' := 6 * kc + 5) B rfl rfl (by omega) (by omega) (fun b9 hb9 => zr_V B hR kV_yX11_feed km_L_28 kx_11 (gSys_s hG) [.int (w' 0), .int (w' 1), .int (w' 2), .int (w' 3), .int (w' 4)] rfl rfl (Nat.le_of_ble_eq_true rfl) dL_feeds_87 (m_Sys_feed hX hG (w' 0) (w' 1) (w' 2) (w' 3) (w' 4) M b9 hb9) ⟨(Nat.le_of_ble_eq_true rfl), (Nat.le_of_ble_eq_true rfl)⟩ ⟨by show kc + 1 + 0 ≤ 41; omega, by show 6 * kc + 5 + 0 ≤ 246; omega⟩) (fun r M1 => ?_)) h0
        refine zk_pop (pc := 90) B dL_feeds_90 rfl ?_
        refine zk_iinc (y := 20) (lf := fun x => [(2, .int x), (0, .ref a), (1, .ref o)]) (pc := 91) B dL_feeds_91 0 rfl (by decide) (by decide) (fun _ => rfl) (fun x => ?_)
        refine zk_goto (tgt := 2) (pc := 94) B dL_feeds_94 (by decide) ?_
        exact zk_widen (k' := kc + 1) (n' := 6 * (kc + 1)) (Nat.le_refl _) (by omega) (ih (kc + 1) (by omega) x M1)
  show z_K X F 5 41 246 G z_cim b 0 0 0 [(0, .ref a), (1, .ref o)] [] M (F_Law_feeds o a M)
  unfold F_Law_feeds
  refine zk_iconst (v := 0) (pc := 0) B dL_feeds_0 (by decide) ?_
  refine zk_istore_n (loc' := [(2, .int 0), (0, .ref a), (1, .ref o)]) (pc := 1) B dL_feeds_1 rfl (by decide) rfl ?_
  exact L2 41 0 rfl 0 M
