/-! ===== the class's side (out of whole, by program) ===== -/
theorem c_desk.ks {o : Nat} {M M' : z_Mem} {c A : q_R} (h : c_desk M (o + 5) c A) (hk : c_ks o M M') : c_desk M' (o + 5) c A := h.keep (fun x _ _ => hk.1 x (by omega))
