/-! ===== the class's side (out of whole, by program) ===== -/
theorem q_b.val {x : Int32} {P : Prop} (h : q_b x P) : x = 0 ∨ x = 1 := by
  rcases h with ⟨h1, h2⟩ | ⟨h1, h2⟩
  · exact Or.inr h1
  · exact Or.inl h1
theorem c_pl.C {o : Nat} {M M' : z_Mem} (h : c_pl o M M') : q_C o M M' := fun a ha => ⟨h.1 a (by unfold q_inM at ha; omega), by rw [h.2]⟩
theorem m_pl.M {o : Nat} {M M' : z_Mem} (h : m_pl (o + 548) M M') : q_M o M M' := fun a ha => ⟨h.1 a (by unfold q_inC at ha; omega) (by unfold q_inC at ha; omega), by rw [h.2.2]⟩
theorem c_thr {o : Nat} {M : z_Mem} {s : q_S} {e : Nat} {F : Option (q_Y × z_Mem)} (hc : c_all o M s) (h : F = some (.error e, M)) : c_does o M s (.error e) F := ⟨M, h, hc, q_C.rfl'⟩
theorem c_ok {o : Nat} {M M' : z_Mem} {s : q_S} {v : Int32} {F : Option (q_Y × z_Mem)} (h : F = some (.ok v, M')) (hc : c_all o M' s) (hk : q_C o M M') : c_does o M s (.ok v) F := ⟨M', h, hc, hk⟩
theorem m_ok {o : Nat} {N N' : z_Mem} {s : q_S} {cd : Nat → Int32} {b v : Int32} {F : Option (Int32 × z_Mem)} (h : F = some (b, N')) (hb : b = v) (hm : m_all (o + 548) N' s) (h0 : N'.1 (o + 548) 0 = 0) (hk : q_M o (z_wI N (o + 548) 0 0) N') : m_does o N s (.ok v) cd F := ⟨b, N', h, hm, q_M.thr.tr hk, h0, fun v' e => by cases e; exact hb⟩
theorem q_In.L {s : q_S} (hI : q_In s) {t : Nat} (ht : t < q_T s.1) : ∃ n rt pt, n ≤ 6 ∧ s.1 (70 + t) = Int32.ofNat n ∧ q_taxiL s.1 s.2.1 t n rt pt := by
  obtain ⟨-, n, h1, h2, rt, pt, h⟩ := hI.2.1.2.2.2 t ht
  exact ⟨n, rt, pt, h1, h2, h⟩
theorem q_taxiL.val {c A : q_R} {t n : Nat} {rt pt : List Nat} (h : q_taxiL c A t n rt pt) : q_val A (g_l rt) rt.length := fun k hk => h.1.2.2.1 _ (g_l_mem hk)
theorem q_taxiL.con {c A : q_R} {t n : Nat} {rt pt : List Nat} (h : q_taxiL c A t n rt pt) : s_con c A t (g_l rt) rt.length := g_con'.mpr h.2.2.1
theorem c_at {o n j x : Nat} {N : z_Mem} {v : Int32} (hl : N.1 (o + 487) 3 = Int32.ofNat n) (hn : n ≤ 12) (hj : j < n) (hv : N.1 x j = v) : (zb (F_Plan_hasPlace o (Int32.ofNat j) N) fun x1 => if x1 = 0 then some (-1 : Int32) else if z_inb (Int32.ofNat j) 12 then some (N.1 x (Int32.ofNat j).toNatClampNeg) else none) = some v := by
  have cj : (Int32.ofNat j).toNatClampNeg = j := i_cl (by omega)
  rw [zb_ok (a_hasPlace hl hn hj), if_neg (by decide), if_pos ((i_inb (by omega)).mpr (by omega)), cj, hv]
