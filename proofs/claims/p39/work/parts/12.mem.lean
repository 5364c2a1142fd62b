/-! ===== the lite rows: memory ===== -/
abbrev z_inb (i : Int32) (N : Nat) : Prop := ¬ (i < 0 ∨ N ≤ i.toNatClampNeg)
theorem z_fv_I {ty : FieldType} (h : z_isI ty = true) (M : z_Mem) (Rf : Nat → Nat → Option Nat) (a k : Nat) : z_fv ty M Rf a k = .int (M.1 a k) := by
  cases ty <;> first | rfl | cases h
theorem z_fv_R {ty : FieldType} (h : z_isR ty = true) (M : z_Mem) (Rf : Nat → Nat → Option Nat) (a k : Nat) : z_fv ty M Rf a k = va_rf (Rf a k) := by
  cases ty <;> first | rfl | cases h
theorem z_fv_eq {ty : FieldType} {M M' : z_Mem} {Rf : Nat → Nat → Option Nat} {a k : Nat} (h1 : M'.1 a k = M.1 a k) (h2 : M'.2 a k = M.2 a k) : z_fv ty M' Rf a k = z_fv ty M Rf a k := by
  cases ty <;> simp only [z_fv, h1, h2]
theorem z_at.kept {X : z_X} {G : z_Gr} {M : z_Mem} {a : Nat} {sh : z_Sh} {H H1 : Heap} (h : z_at X G M a sh H) (h1 : H1[a]? = H[a]?) : z_at X G M a sh H1 := by
  cases sh with
  | inl ci =>
    obtain ⟨r, e1, e2⟩ := h
    exact ⟨r, e1, e2.kept h1⟩
  | inr kn => exact h1.trans h
theorem z_av_eq {kd : Nat} {M M' : z_Mem} {Rf : Nat → Nat → Option Nat} {a : Nat} (h1 : M'.1 a = M.1 a) (h2 : M'.2 a = M.2 a) : z_av kd M' Rf a = z_av kd M Rf a := by
  unfold z_av
  rw [h1]
theorem z_at.mem {X : z_X} {G : z_Gr} {M M' : z_Mem} {a : Nat} {sh : z_Sh} {H : Heap} (h : z_at X G M a sh H) (h1 : M'.1 a = M.1 a) (h2 : M'.2 a = M.2 a) : z_at X G M' a sh H := by
  cases sh with
  | inl ci =>
    obtain ⟨r, e1, e2⟩ := h
    exact ⟨r, e1, e2.to (fun k _ => (z_fv_eq (congrFun h1 k) (congrFun h2 k)).symm)⟩
  | inr kn =>
    show H[a]? = some (vp_cell _ (_, z_av _ M' _ _))
    rw [z_av_eq h1 h2]
    exact h
theorem z_low.put {X : z_X} {H H' : Heap} {a : Nat} (h : z_low X H) (ha : z_o X ≤ a) (z : H'.size = H.size) (oq : ∀ q : Nat, q ≠ a → H'[q]? = H[q]?) : z_low X H' :=
  ⟨by rw [z]; exact h.1, fun q hq => by rw [oq q (by omega)]; exact h.2 q hq⟩
theorem z_H.put {X : z_X} {G : z_Gr} {M M' : z_Mem} {H H' : Heap} {a : Nat} {sh : z_Sh} (hH : z_H X G M H) (hg : G.1 a = some sh) (z : H'.size = H.size) (oq : ∀ q : Nat, q ≠ a → H'[q]? = H[q]?) (h1 : ∀ b, b ≠ a → M'.1 b = M.1 b) (h2 : ∀ b, b ≠ a → M'.2 b = M.2 b) (hat : z_at X G M' a sh H') : z_H X G M' H' := by
  have ha := (hH.2 a sh hg).1
  refine ⟨hH.1.put ha z oq, fun b sb hb => ?_⟩
  by_cases hba : b = a
  · subst hba
    rw [hg] at hb
    cases hb
    exact ⟨ha, hat⟩
  · exact ⟨(hH.2 b sb hb).1, ((hH.2 b sb hb).2.kept (oq b hba)).mem (h1 b hba) (h2 b hba)⟩
theorem z_wI_off {M : z_Mem} {a k : Nat} {v : Int32} {b : Nat} (h : b ≠ a) : (z_wI M a k v).1 b = M.1 b := by
  funext j
  simp [z_wI, h]
theorem z_wL_off {M : z_Mem} {a k : Nat} {v : Int64} {b : Nat} (h : b ≠ a) : (z_wL M a k v).2 b = M.2 b := by
  funext j
  simp [z_wL, h]
theorem z_locs {X : z_X} {locs : List Loc} {a i : Nat} (hf : ∀ q ∈ locs, z_o X ≤ q.base) (ha : z_o X ≤ a) : ∀ q ∈ locs ++ [⟨a, i⟩], z_o X ≤ q.base := by
  intro q hq
  rcases List.mem_append.mp hq with h | h
  · exact hf q h
  · rw [List.mem_singleton.mp h]; exact ha
theorem z_B.K {X : z_X} {F : z_F} {own : String} {cc : ByteArray} {nL : Nat} {ret : Option FieldType} (B : z_B X F own cc nL ret) : va_K X.2.2.1 vwCl (z_tys X.2.2.2.1) F.2.2.2.1 := va_K.moved B.2.2.2.2.2.2.2.2.1.alike B.2.2.2.2.2.2.2.2.2.2.2.1
theorem z_tys_at {cA : Nat → ClassId} {kd : Nat} (h : kd < 6) : (z_tys cA)[kd]? = some (cA kd, z_kt kd) := by
  rcases (show kd = 0 ∨ kd = 1 ∨ kd = 2 ∨ kd = 3 ∨ kd = 4 ∨ kd = 5 by omega) with rfl | rfl | rfl | rfl | rfl | rfl <;> rfl
section ZR2
variable {X : z_X} {F : z_F} {own : String} {cc : ByteArray} {nL mc ms : Nat} {ret : Option FieldType} {G : z_Gr} {β : Type} {cv : β → z_O × z_Mem} {b0 : β} {k n pc : Nat} {loc loc' : List (Nat × Value)} {st : List Value} {M : z_Mem} {K : Option β}
theorem zk_get (B : z_B X F own cc nL ret) {ci N : Nat} {C : String} {T : u_T} (hc : z_cl ci C T N) {a : Nat} (hg : G.1 a = some (.inl ci)) (f : Nat) (hf : f < N) {ix : Nat} (hlk : Cond.fieldLink own ix (T f).1 (T f).2.1 (T f).2.2.1 ∈ z_tbl) (d : decode cc pc = .ok (.getfield ix, 3)) (kk : z_K X F nL mc ms G cv b0 k n (pc + 3) loc (z_fv (z_ty ci f) M G.2 a f :: st) M K) : z_K X F nL mc ms G cv b0 k n pc loc (.ref a :: st) M K := by
  intro h0 H locs ls hH hz hl hL
  obtain ⟨r, h1, cell, q1, q2, q3, q4⟩ := (hH.2 a _ hg).2
  have hr : r = (C, T, N) := Option.some.inj (h1.symm.trans hc.1)
  subst hr
  obtain ⟨hS, hfc, kC, hkC, hkind⟩ := B.K.1 ci _ hc.1
  obtain ⟨cf, kf, fi, fd, hi, hsl⟩ := hS f hf
  refine W.getf B.1 B.2.1 B.2.2.2.2.1 (B.2.2.2.2.2.1 _ hlk) hi (u_facts hfc hkC (u_lays B.2.2.2.2.2.1 hc.2.1 hf) hi).1 q1 (by rw [q3]; exact fun h => by cases h) (v := z_fv (z_ty ci f) M G.2 a f) ?_ rfl rfl d (kk h0 H locs ls hH hz hl hL)
  rw [hsl, q4 f hf]
theorem zk_geti (B : z_B X F own cc nL ret) {ci N : Nat} {C : String} {T : u_T} (hc : z_cl ci C T N) {a : Nat} (hg : G.1 a = some (.inl ci)) (f : Nat) (hf : f < N) {ix : Nat} (hlk : Cond.fieldLink own ix (T f).1 (T f).2.1 (T f).2.2.1 ∈ z_tbl) (hI : z_isI (z_ty ci f) = true) (d : decode cc pc = .ok (.getfield ix, 3)) (kk : z_K X F nL mc ms G cv b0 k n (pc + 3) loc (.int (M.1 a f) :: st) M K) : z_K X F nL mc ms G cv b0 k n pc loc (.ref a :: st) M K :=
  zk_get B hc hg f hf hlk d (by rw [z_fv_I hI]; exact kk)
theorem zk_getl (B : z_B X F own cc nL ret) {ci N : Nat} {C : String} {T : u_T} (hc : z_cl ci C T N) {a : Nat} (hg : G.1 a = some (.inl ci)) (f : Nat) (hf : f < N) {ix : Nat} (hlk : Cond.fieldLink own ix (T f).1 (T f).2.1 (T f).2.2.1 ∈ z_tbl) (hI : z_ty ci f = .long) (d : decode cc pc = .ok (.getfield ix, 3)) (kk : z_K X F nL mc ms G cv b0 k n (pc + 3) loc (.long (M.2 a f) :: st) M K) : z_K X F nL mc ms G cv b0 k n pc loc (.ref a :: st) M K :=
  zk_get B hc hg f hf hlk d (by rw [hI]; exact kk)
theorem zk_getr (B : z_B X F own cc nL ret) {ci N : Nat} {C : String} {T : u_T} (hc : z_cl ci C T N) {a b : Nat} (hg : G.1 a = some (.inl ci)) (f : Nat) (hf : f < N) {ix : Nat} (hlk : Cond.fieldLink own ix (T f).1 (T f).2.1 (T f).2.2.1 ∈ z_tbl) (hI : z_isR (z_ty ci f) = true) (hr : G.2 a f = some b) (d : decode cc pc = .ok (.getfield ix, 3)) (kk : z_K X F nL mc ms G cv b0 k n (pc + 3) loc (.ref b :: st) M K) : z_K X F nL mc ms G cv b0 k n pc loc (.ref a :: st) M K :=
  zk_get B hc hg f hf hlk d (by rw [z_fv_R hI, hr]; exact kk)
theorem zk_put (B : z_B X F own cc nL ret) {ci N : Nat} {C : String} {T : u_T} (hc : z_cl ci C T N) {a : Nat} (hg : G.1 a = some (.inl ci)) (f : Nat) (hf : f < N) {ix : Nat} (hlk : Cond.fieldLink own ix (T f).1 (T f).2.1 (T f).2.2.1 ∈ z_tbl) (hfin : (T f).2.2.2 = false) {v : Value} {M' : z_Mem} (hn : narrow (z_ty ci f) v = v) (hft : fits (z_ty ci f) v = true)
    (hv : z_fv (z_ty ci f) M' G.2 a f = v) (hw : ∀ j, j ≠ f → M'.1 a j = M.1 a j ∧ M'.2 a j = M.2 a j) (h1 : ∀ b, b ≠ a → M'.1 b = M.1 b) (h2 : ∀ b, b ≠ a → M'.2 b = M.2 b) (d : decode cc pc = .ok (.putfield ix, 3))
    (kk : z_K X F nL mc ms G cv b0 k n (pc + 3) loc st M' K) : z_K X F nL mc ms G cv b0 k n pc loc (v :: .ref a :: st) M K := by
  intro h0 H locs ls hH hz hl hL
  have hap := va_apart (own := own) B.2.2.2.2.2.1 hc.2.1 (z_ty ci) hc.2.2.1 hc.2.2.2 B.K hc.1
  obtain ⟨ha, r, hr1, cell, q1, q2, q3, q4⟩ := hH.2 a _ hg
  have hr : r = (C, T, N) := Option.some.inj (hr1.symm.trans hc.1)
  subst hr
  obtain ⟨hS, hfc, kC, hkC, hkind⟩ := B.K.1 ci _ hc.1
  obtain ⟨cf, kf, fi, fd, hi, hsl⟩ := hS f hf
  have hlay := B.2.2.2.2.2.1 _ (hc.2.1 _ (u_in_lay hf))
  unfold u_lay at hlay
  rw [if_neg (by rw [hfin]; decide)] at hlay
  have hst := (u_facts hfc hkC (u_lays B.2.2.2.2.2.1 hc.2.1 hf) hi).1
  have h6 := u_store hfc hkC hkind hlay hi (hc.2.2.1 f hf) hn hft
  refine W.putK B.1 B.2.1 (f := fd) ⟨B.2.2.2.2.1, B.2.2.2.2.2.1 _ hlk, ⟨_, _, _, hi⟩, hst⟩ (by rw [q2]; exact h6) q1 q3 (by rw [hsl]; exact k2_hasslot (q4 f hf)) rfl rfl d fun H' e1 e2 e3 => ?_
  rw [hsl] at e1
  refine kk h0 H' _ ls (hH.put hg e2 e3 h1 h2 ⟨_, hc.1, _, e1, q2, q3, fun j hj => ?_⟩) (by rw [e2]; exact hz) (z_locs hl ha) hL
  rw [t_set q4 hap hf v j hj]
  by_cases hjf : j = f
  · subst hjf
    simp only [updV, if_true]
    exact congrArg some hv.symm
  · simp only [updV, if_neg hjf]
    exact congrArg some (z_fv_eq (hw j hjf).1 (hw j hjf).2).symm
theorem zk_puti (B : z_B X F own cc nL ret) {ci N : Nat} {C : String} {T : u_T} (hc : z_cl ci C T N) {a : Nat} (hg : G.1 a = some (.inl ci)) (f : Nat) (hf : f < N) {ix : Nat} (hlk : Cond.fieldLink own ix (T f).1 (T f).2.1 (T f).2.2.1 ∈ z_tbl) (hfin : (T f).2.2.2 = false) (hI : z_isI (z_ty ci f) = true) {x : Int32} (hn : narrow (z_ty ci f) (.int x) = .int x) (hft : fits (z_ty ci f) (.int x) = true) (d : decode cc pc = .ok (.putfield ix, 3))
    (kk : z_K X F nL mc ms G cv b0 k n (pc + 3) loc st (z_wI M a f x) K) : z_K X F nL mc ms G cv b0 k n pc loc (.int x :: .ref a :: st) M K := by
  refine zk_put B hc hg f hf hlk hfin (M' := z_wI M a f x) hn hft (by rw [z_fv_I hI]; simp [z_wI]) (fun j hj => ⟨by simp [z_wI, hj], rfl⟩) (fun b hb => z_wI_off hb) (fun b _ => rfl) d kk
theorem zk_putl (B : z_B X F own cc nL ret) {ci N : Nat} {C : String} {T : u_T} (hc : z_cl ci C T N) {a : Nat} (hg : G.1 a = some (.inl ci)) (f : Nat) (hf : f < N) {ix : Nat} (hlk : Cond.fieldLink own ix (T f).1 (T f).2.1 (T f).2.2.1 ∈ z_tbl) (hfin : (T f).2.2.2 = false) (hI : z_ty ci f = .long) {x : Int64} (d : decode cc pc = .ok (.putfield ix, 3))
    (kk : z_K X F nL mc ms G cv b0 k n (pc + 3) loc st (z_wL M a f x) K) : z_K X F nL mc ms G cv b0 k n pc loc (.long x :: .ref a :: st) M K := by
  refine zk_put B hc hg f hf hlk hfin (M' := z_wL M a f x) (by rw [hI]; rfl) (by rw [hI]; rfl) (by rw [hI]; simp [z_fv, z_wL]) (fun j hj => ⟨rfl, by simp [z_wL, hj]⟩) (fun b _ => rfl) (fun b hb => z_wL_off hb) d kk
theorem zk_iald (B : z_B X F own cc nL ret) {a N : Nat} (hg : G.1 a = some (.inr (0, N))) {i : Int32} (d : decode cc pc = .ok (.iaload, 1)) (kk : z_K X F nL mc ms G cv b0 k n (pc + 1) loc (.int (M.1 a i.toNatClampNeg) :: st) M K) : z_K X F nL mc ms G cv b0 k n pc loc (.int i :: .ref a :: st) M (if z_inb i N then K else none) :=
  zk_chk fun hin h0 H locs ls hH hz hl hL => va_iald (f := M.1 a) (n := N) (ws := [(a, .inl (X.2.2.2.1 0, N, .inl (M.1 a)))]) B.1 B.2.1 B.K (fun j q hj => by
    match j, hj with
    | 0, hj => cases hj; exact (hH.2 a _ hg).2) 0 0 rfl (z_tys_at (kd := 0) (by omega)) hin d (kk h0 H locs ls hH hz hl hL)
theorem zk_bald (B : z_B X F own cc nL ret) {a N : Nat} (hg : G.1 a = some (.inr (1, N))) {i : Int32} (d : decode cc pc = .ok (.baload, 1)) (kk : z_K X F nL mc ms G cv b0 k n (pc + 1) loc (.int (M.1 a i.toNatClampNeg) :: st) M K) : z_K X F nL mc ms G cv b0 k n pc loc (.int i :: .ref a :: st) M (if z_inb i N then K else none) :=
  zk_chk fun hin h0 H locs ls hH hz hl hL => va_bald (f := M.1 a) (n := N) (ws := [(a, .inl (X.2.2.2.1 1, N, .inl (M.1 a)))]) B.1 B.2.1 B.K (fun j q hj => by
    match j, hj with
    | 0, hj => cases hj; exact (hH.2 a _ hg).2) 0 1 rfl (z_tys_at (kd := 1) (by omega)) hin d (kk h0 H locs ls hH hz hl hL)
/-- an element of a row of references, that is known -/
theorem zk_aald (B : z_B X F own cc nL ret) {a b N kd : Nat} (hg : G.1 a = some (.inr (kd, N))) (h3 : 3 ≤ kd) (h6 : kd < 6) {i : Int32} (hr : z_inb i N → G.2 a i.toNatClampNeg = some b) (d : decode cc pc = .ok (.aaload, 1)) (kk : z_inb i N → z_K X F nL mc ms G cv b0 k n (pc + 1) loc (.ref b :: st) M K) : z_K X F nL mc ms G cv b0 k n pc loc (.int i :: .ref a :: st) M (if z_inb i N then K else none) := by
  refine zk_chk fun hin h0 H locs ls hH hz hl hL => ?_
  have hh := (hH.2 a _ hg).2
  have e : z_av kd M G.2 a = .inr (.inr (.inr (.inr (G.2 a)))) := by
    rcases (show kd = 3 ∨ kd = 4 ∨ kd = 5 by omega) with rfl | rfl | rfl <;> rfl
  obtain ⟨C, hC⟩ : ∃ C, z_kt kd = .object C := by
    rcases (show kd = 3 ∨ kd = 4 ∨ kd = 5 by omega) with rfl | rfl | rfl <;> exact ⟨_, rfl⟩
  have ht := z_tys_at (cA := X.2.2.2.1) h6
  rw [hC] at ht
  refine va_aldq (f := G.2 a) (n := N) (ws := [(a, .inl (X.2.2.2.1 kd, N, .inr (.inr (.inr (.inr (G.2 a))))))]) B.1 B.2.1 B.K (fun j q hj => ?_) 0 kd rfl ht hin d ?_
  · match j, hj with
    | 0, hj =>
      cases hj
      show H[a]? = some (vp_cell _ _)
      rw [← e]
      exact hh
  · rw [hr hin]
    exact kk hin h0 H locs ls hH hz hl hL
theorem zk_alen (B : z_B X F own cc nL ret) {a N kd : Nat} (hg : G.1 a = some (.inr (kd, N))) (h6 : kd < 6) {v : Int32} (hv : Int32.ofNat N = v) (d : decode cc pc = .ok (.arraylength, 1)) (kk : z_K X F nL mc ms G cv b0 k n (pc + 1) loc (.int v :: st) M K) : z_K X F nL mc ms G cv b0 k n pc loc (.ref a :: st) M K :=
  fun h0 H locs ls hH hz hl hL => va_alen (x := (N, z_av kd M G.2 a)) (ws := [(a, .inl (X.2.2.2.1 kd, N, z_av kd M G.2 a))]) B.1 B.2.1 B.K (fun j q hj => by
    match j, hj with
    | 0, hj => cases hj; exact (hH.2 a _ hg).2) 0 kd rfl (z_tys_at h6) hv d (kk h0 H locs ls hH hz hl hL)
theorem zk_iast (B : z_B X F own cc nL ret) {a N : Nat} (hg : G.1 a = some (.inr (0, N))) {i x : Int32} (d : decode cc pc = .ok (.iastore, 1)) (kk : z_K X F nL mc ms G cv b0 k n (pc + 1) loc st (z_wI M a i.toNatClampNeg x) K) : z_K X F nL mc ms G cv b0 k n pc loc (.int x :: .int i :: .ref a :: st) M (if z_inb i N then K else none) := by
  refine zk_chk fun hin h0 H locs ls hH hz hl hL => ?_
  obtain ⟨ha, hh⟩ := hH.2 a _ hg
  refine W.iast B.1 B.2.1 hh ((B.K.2 0 _ (z_tys_at (kd := 0) (by omega))).1 N (fun j => .int (M.1 a j))) (fun q => by cases q) (by show ¬ (i < 0 ∨ (arrV _ _ _).slots.size ≤ _); rw [arrV_size]; exact hin) rfl rfl d fun H1 e z oq => ?_
  refine kk h0 H1 _ ls (hH.put hg z oq (fun b hb => z_wI_off hb) (fun b _ => rfl) ?_) (by rw [z]; exact hz) (z_locs hl ha) hL
  show H1[a]? = some (vp_cell _ _)
  rw [e]
  show some ((vp_cell _ (N, .inl (M.1 a))).setSlot _ _) = some (vp_cell _ (N, .inl ((z_wI M a i.toNatClampNeg x).1 a)))
  rw [vp_cell_i, vp_cell_i, arrV_store]
  congr 2
  funext q
  by_cases hq : q = i.toNatClampNeg
  · subst hq
    simp [updV, z_wI]
  · simp [updV, z_wI, hq]
theorem zk_bast (B : z_B X F own cc nL ret) {a N : Nat} (hg : G.1 a = some (.inr (1, N))) {i x : Int32} (d : decode cc pc = .ok (.bastore, 1)) (kk : z_K X F nL mc ms G cv b0 k n (pc + 1) loc st (z_wI M a i.toNatClampNeg x.toInt8.toInt32) K) : z_K X F nL mc ms G cv b0 k n pc loc (.int x :: .int i :: .ref a :: st) M (if z_inb i N then K else none) := by
  refine zk_chk fun hin h0 H locs ls hH hz hl hL => ?_
  obtain ⟨ha, hh⟩ := hH.2 a _ hg
  refine W.bast B.1 B.2.1 hh ((B.K.2 1 _ (z_tys_at (kd := 1) (by omega))).1 N (fun j => .int (M.1 a j))) (fun q => by cases q) (by show ¬ (i < 0 ∨ (arrV _ _ _).slots.size ≤ _); rw [arrV_size]; exact hin) rfl rfl d fun H1 e z oq => ?_
  refine kk h0 H1 _ ls (hH.put hg z oq (fun b hb => z_wI_off hb) (fun b _ => rfl) ?_) (by rw [z]; exact hz) (z_locs hl ha) hL
  show H1[a]? = some (vp_cell _ _)
  rw [e]
  show some ((vp_cell _ (N, .inl (M.1 a))).setSlot _ (Value.int x.toInt8.toInt32)) = some (vp_cell _ (N, .inl ((z_wI M a i.toNatClampNeg x.toInt8.toInt32).1 a)))
  rw [vp_cell_i, vp_cell_i, arrV_store]
  congr 2
  funext q
  by_cases hq : q = i.toNatClampNeg
  · subst hq
    simp [updV, z_wI]
  · simp [updV, z_wI, hq]
end ZR2
