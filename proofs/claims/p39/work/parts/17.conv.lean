/-! ===== what a method's term says of its end, and how a caller binds it ===== -/
def z_ci (M : z_Mem) (r : Int32) : z_O × z_Mem := (.ok (some (.int r)), M)
def z_cim (q : Int32 × z_Mem) : z_O × z_Mem := (.ok (some (.int q.1)), q.2)
def z_cvm (M : z_Mem) : z_O × z_Mem := (.ok none, M)
def z_cr (M : z_Mem) (r : Nat) : z_O × z_Mem := (.ok (some (.ref r)), M)
def z_xi (M : z_Mem) (q : Except Nat Int32) : z_O × z_Mem := match q with
  | .ok r => (.ok (some (.int r)), M)
  | .error e => (.error e, M)
def z_xr (M : z_Mem) (q : Except Nat Nat) : z_O × z_Mem := match q with
  | .ok r => (.ok (some (.ref r)), M)
  | .error e => (.error e, M)
def z_xv (M : z_Mem) (q : Except Nat Unit) : z_O × z_Mem := match q with
  | .ok _ => (.ok none, M)
  | .error e => (.error e, M)
def z_xim (q : Except Nat Int32 × z_Mem) : z_O × z_Mem := match q.1 with
  | .ok r => (.ok (some (.int r)), q.2)
  | .error e => (.error e, q.2)
def zxp {α γ : Type} (x : Option (Except Nat α)) (f : α → Option (Except Nat γ)) : Option (Except Nat γ) := zb x (fun q => match q with
  | .ok a => f a
  | .error e => some (.error e))
def zxm {α γ : Type} (M : z_Mem) (x : Option (Except Nat α)) (f : α → Option (Except Nat γ × z_Mem)) : Option (Except Nat γ × z_Mem) := zb x (fun q => match q with
  | .ok a => f a
  | .error e => some (.error e, M))
theorem zb2_eq {α γ β : Type} (x : Option (α × γ)) (f : α → γ → Option β) : zb2 x f = zb x (fun q => f q.1 q.2) := by cases x <;> rfl
section ZR6
variable {X : z_X} {F : z_F} {own : String} {cc : ByteArray} {nL mc ms : Nat} {ret : Option FieldType} {G : z_Gr} {β : Type} {cv : β → z_O × z_Mem} {b0 : β} {k n pc : Nat} {loc loc' : List (Nat × Value)} {st0 rest : List Value} {M : z_Mem} {mc' ms' : Nat} {av : Array Value}
theorem zk_cpi (B : z_B X F own cc nL ret) {Kc : Option Int32} {f : Int32 → Option β} {k' n' : Nat} (hk' : k + mc' = k') (hn' : n + ms' = n') (hk : k' ≤ mc) (hs : n' ≤ ms)
    (hrun : ∀ b, Kc = some b → z_Run X F nL k n pc loc st0 rest G M mc' ms' av (fun o G' M' => G' = G ∧ (o, M') = z_ci M b))
    (kk : ∀ r, Kc = some r → z_K X F nL mc ms G cv b0 k' n' (pc + 3) loc (.int r :: rest) M (f r)) : z_K X F nL mc ms G cv b0 k n pc loc st0 M (zb Kc f) := by
  subst hk'; subst hn'
  refine zk_call B (Or.inr (fun b e M1 h => by cases h)) hrun (fun b hb v M1 h => ?_) (fun b e M1 h => by cases h) hk hs
  cases h
  exact kk b hb
theorem zk_cpr (B : z_B X F own cc nL ret) {Kc : Option Nat} {f : Nat → Option β} {k' n' : Nat} (hk' : k + mc' = k') (hn' : n + ms' = n') (hk : k' ≤ mc) (hs : n' ≤ ms)
    (hrun : ∀ b, Kc = some b → z_Run X F nL k n pc loc st0 rest G M mc' ms' av (fun o G' M' => G' = G ∧ (o, M') = z_cr M b))
    (kk : ∀ r, Kc = some r → z_K X F nL mc ms G cv b0 k' n' (pc + 3) loc (.ref r :: rest) M (f r)) : z_K X F nL mc ms G cv b0 k n pc loc st0 M (zb Kc f) := by
  subst hk'; subst hn'
  refine zk_call B (Or.inr (fun b e M1 h => by cases h)) hrun (fun b hb v M1 h => ?_) (fun b e M1 h => by cases h) hk hs
  cases h
  exact kk b hb
theorem zk_cim (B : z_B X F own cc nL ret) {Kc : Option (Int32 × z_Mem)} {f : Int32 → z_Mem → Option β} {k' n' : Nat} (hk' : k + mc' = k') (hn' : n + ms' = n') (hk : k' ≤ mc) (hs : n' ≤ ms)
    (hrun : ∀ b, Kc = some b → z_Run X F nL k n pc loc st0 rest G M mc' ms' av (fun o G' M' => G' = G ∧ (o, M') = z_cim b))
    (kk : ∀ r M1, z_K X F nL mc ms G cv b0 k' n' (pc + 3) loc (.int r :: rest) M1 (f r M1)) : z_K X F nL mc ms G cv b0 k n pc loc st0 M (zb2 Kc f) := by
  subst hk'; subst hn'
  rw [zb2_eq]
  refine zk_call B (Or.inr (fun b e M1 h => by cases h)) hrun (fun b hb v M1 h => ?_) (fun b e M1 h => by cases h) hk hs
  cases h
  exact kk b.1 b.2
theorem zk_cvm (B : z_B X F own cc nL ret) {Kc : Option z_Mem} {f : z_Mem → Option β} {k' n' : Nat} (hk' : k + mc' = k') (hn' : n + ms' = n') (hk : k' ≤ mc) (hs : n' ≤ ms)
    (hrun : ∀ b, Kc = some b → z_Run X F nL k n pc loc st0 rest G M mc' ms' av (fun o G' M' => G' = G ∧ (o, M') = z_cvm b))
    (kk : ∀ M1, z_K X F nL mc ms G cv b0 k' n' (pc + 3) loc rest M1 (f M1)) : z_K X F nL mc ms G cv b0 k n pc loc st0 M (zb Kc f) := by
  subst hk'; subst hn'
  refine zk_call B (Or.inr (fun b e M1 h => by cases h)) hrun (fun b hb v M1 h => ?_) (fun b e M1 h => by cases h) hk hs
  cases h
  exact kk b
theorem zk_cxp {α γ : Type} {cx : Except Nat α → z_O × z_Mem} {cv : Except Nat γ → z_O × z_Mem} {b0 : Except Nat γ} (B : z_B X F own cc nL ret) (hne : own ≠ RL) {Kc : Option (Except Nat α)} {f : α → Option (Except Nat γ)} {k' n' : Nat} (hk' : k + mc' = k') (hn' : n + ms' = n') (hk : k' ≤ mc) (hs : n' ≤ ms) (hcv : ∀ e, cv (.error e) = (.error e, M)) (vv : α → List Value) (hcx : ∀ a v M1, cx (.ok a) = (.ok v, M1) → v.toList = vv a ∧ M1 = M) (hce : ∀ a e M1, cx (.ok a) ≠ (.error e, M1)) (hcy : ∀ e q, cx (.error e) = q → q = (.error e, M))
    (hrun : ∀ b, Kc = some b → z_Run X F nL k n pc loc st0 rest G M mc' ms' av (fun o G' M' => G' = G ∧ (o, M') = cx b))
    (kk : ∀ a, Kc = some (.ok a) → z_K X F nL mc ms G cv b0 k' n' (pc + 3) loc (vv a ++ rest) M (f a)) : z_K X F nL mc ms G cv b0 k n pc loc st0 M (zxp Kc f) := by
  subst hk'; subst hn'
  unfold zxp
  refine zk_call B (Or.inl hne) hrun (fun b hb v M1 h => ?_) (fun b e M1 h => ?_) hk hs
  · cases b with
    | ok a =>
      obtain ⟨h1, h2⟩ := hcx a v M1 h
      rw [h1, h2]
      exact kk a hb
    | error e => cases hcy e _ h
  · cases b with
    | ok a => exact absurd h (hce a e M1)
    | error e' =>
      have q := hcy e' _ h
      have q1 : e = e' := by cases q; rfl
      have q2 : M1 = M := by cases q; rfl
      rw [q1, q2]
      exact ⟨.error e', rfl, hcv e'⟩
theorem zk_cxm {α γ : Type} {cx : Except Nat α → z_O × z_Mem} {cv : Except Nat γ × z_Mem → z_O × z_Mem} {b0 : Except Nat γ × z_Mem} (B : z_B X F own cc nL ret) (hne : own ≠ RL) {Kc : Option (Except Nat α)} {f : α → Option (Except Nat γ × z_Mem)} {k' n' : Nat} (hk' : k + mc' = k') (hn' : n + ms' = n') (hk : k' ≤ mc) (hs : n' ≤ ms) (hcv : ∀ e, cv (.error e, M) = (.error e, M)) (vv : α → List Value) (hcx : ∀ a v M1, cx (.ok a) = (.ok v, M1) → v.toList = vv a ∧ M1 = M) (hce : ∀ a e M1, cx (.ok a) ≠ (.error e, M1)) (hcy : ∀ e q, cx (.error e) = q → q = (.error e, M))
    (hrun : ∀ b, Kc = some b → z_Run X F nL k n pc loc st0 rest G M mc' ms' av (fun o G' M' => G' = G ∧ (o, M') = cx b))
    (kk : ∀ a, Kc = some (.ok a) → z_K X F nL mc ms G cv b0 k' n' (pc + 3) loc (vv a ++ rest) M (f a)) : z_K X F nL mc ms G cv b0 k n pc loc st0 M (zxm M Kc f) := by
  subst hk'; subst hn'
  unfold zxm
  refine zk_call B (Or.inl hne) hrun (fun b hb v M1 h => ?_) (fun b e M1 h => ?_) hk hs
  · cases b with
    | ok a =>
      obtain ⟨h1, h2⟩ := hcx a v M1 h
      rw [h1, h2]
      exact kk a hb
    | error e => cases hcy e _ h
  · cases b with
    | ok a => exact absurd h (hce a e M1)
    | error e' =>
      have q := hcy e' _ h
      have q1 : e = e' := by cases q; rfl
      have q2 : M1 = M := by cases q; rfl
      rw [q1, q2]
      exact ⟨(.error e', M), rfl, hcv e'⟩
end ZR6
theorem z_xi_1 {M : z_Mem} : ∀ (a : Int32) (v : Option Value) (M1 : z_Mem), z_xi M (.ok a) = (.ok v, M1) → v.toList = [Value.int a] ∧ M1 = M := fun a v M1 h => by cases h; exact ⟨rfl, rfl⟩
theorem z_xi_2 {M : z_Mem} : ∀ (a : Int32) (e : Nat) (M1 : z_Mem), z_xi M (.ok a) ≠ (.error e, M1) := fun a e M1 h => by cases h
theorem z_xi_3 {M : z_Mem} : ∀ (e : Nat) (q : z_O × z_Mem), z_xi M (.error e) = q → q = (.error e, M) := fun e q h => h.symm
theorem z_xr_1 {M : z_Mem} : ∀ (a : Nat) (v : Option Value) (M1 : z_Mem), z_xr M (.ok a) = (.ok v, M1) → v.toList = [Value.ref a] ∧ M1 = M := fun a v M1 h => by cases h; exact ⟨rfl, rfl⟩
theorem z_xr_2 {M : z_Mem} : ∀ (a : Nat) (e : Nat) (M1 : z_Mem), z_xr M (.ok a) ≠ (.error e, M1) := fun a e M1 h => by cases h
theorem z_xr_3 {M : z_Mem} : ∀ (e : Nat) (q : z_O × z_Mem), z_xr M (.error e) = q → q = (.error e, M) := fun e q h => h.symm
theorem z_xv_1 {M : z_Mem} : ∀ (a : Unit) (v : Option Value) (M1 : z_Mem), z_xv M (.ok a) = (.ok v, M1) → v.toList = [] ∧ M1 = M := fun a v M1 h => by cases h; exact ⟨rfl, rfl⟩
theorem z_xv_2 {M : z_Mem} : ∀ (a : Unit) (e : Nat) (M1 : z_Mem), z_xv M (.ok a) ≠ (.error e, M1) := fun a e M1 h => by cases h
theorem z_xv_3 {M : z_Mem} : ∀ (e : Nat) (q : z_O × z_Mem), z_xv M (.error e) = q → q = (.error e, M) := fun e q h => h.symm
section ZR7
variable {X : z_X} {F : z_F} {nL mc ms : Nat} {G : z_Gr} {β : Type} {cv : β → z_O × z_Mem} {b0 : β} {k n pc : Nat} {loc : List (Nat × Value)} {st : List Value} {M : z_Mem}
/-- the memory gets a name -/
theorem zk_lm {f : z_Mem → Option β} (kk : ∀ M1, z_K X F nL mc ms G cv b0 k n pc loc st M1 (f M1)) : z_K X F nL mc ms G cv b0 k n pc loc st M (zl M f) := kk M
/-- a reference on the stack gets a name -/
theorem zk_lr {x : Nat} {f : Nat → Option β} (kk : ∀ y : Nat, y = x → z_K X F nL mc ms G cv b0 k n pc loc (.ref y :: st) M (f y)) : z_K X F nL mc ms G cv b0 k n pc loc (.ref x :: st) M (zl x f) := kk x rfl
end ZR7
theorem z_n01 {x : Int32} (h : x = 0 ∨ x = 1) : narrow .boolean (.int x) = .int x := by rcases h with rfl | rfl <;> rfl
theorem z_f01 {x : Int32} (h : x = 0 ∨ x = 1) : fits .boolean (.int x) = true := by rcases h with rfl | rfl <;> rfl
/-- a method that answers nothing and writes nothing -/
def z_cu (M : z_Mem) (_ : Unit) : z_O × z_Mem := (.ok none, M)
theorem zk_cup {X : z_X} {F : z_F} {own : String} {cc : ByteArray} {nL mc ms : Nat} {ret : Option FieldType} {G : z_Gr} {β : Type} {cv : β → z_O × z_Mem} {b0 : β} {k n pc : Nat} {loc : List (Nat × Value)} {st0 rest : List Value} {M : z_Mem} {K : Option β} {mc' ms' : Nat} {av : Array Value} (B : z_B X F own cc nL ret) {Kc : Option Unit} {k' n' : Nat} (hk' : k + mc' = k') (hn' : n + ms' = n') (hk : k' ≤ mc) (hs : n' ≤ ms)
    (hrun : ∀ b, Kc = some b → z_Run X F nL k n pc loc st0 rest G M mc' ms' av (fun o G' M' => G' = G ∧ (o, M') = z_cu M b))
    (kk : z_K X F nL mc ms G cv b0 k' n' (pc + 3) loc rest M K) : z_K X F nL mc ms G cv b0 k n pc loc st0 M (zb Kc fun _ => K) := by
  subst hk'; subst hn'
  refine zk_call B (Or.inr (fun b e M1 h => by cases h)) hrun (fun b hb v M1 h => ?_) (fun b e M1 h => by cases h) hk hs
  cases h
  exact kk
