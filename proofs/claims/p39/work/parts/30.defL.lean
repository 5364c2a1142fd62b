/-! ===== the law's methods as terms (by program) ===== -/
def F_Law_writes_B2 (a : Nat) (w0 : Nat) (rec2 : Int32 → z_Mem → Option (z_Mem)) (v2 : Int32) (M : z_Mem) : Option (z_Mem) :=
  if (Int32.ofNat (z_tl w0)) ≤ v2 then
    some M
  else
    if z_inb v2 (z_tl w0) then
    if z_inb (M.1 a 1) 800 then
    zl (z_wI M (a + 1) (M.1 a 1).toNatClampNeg (z_tc w0 v2.toNatClampNeg)) fun M1 =>
    zl (z_wI M1 a 1 ((M1.1 a 1) + 1)) fun M2 =>
    zl (v2 + 1) fun x3 =>
    rec2 x3 M2
    else none
    else none
def F_Law_writes_L2 (a : Nat) (w0 : Nat) : Nat → Int32 → z_Mem → Option (z_Mem)
  | 0, _, _ => none
  | n9 + 1, v2, M => F_Law_writes_B2 a w0 (F_Law_writes_L2 a w0 n9) v2 M
def F_Law_writes (a : Nat) (w0 : Nat) (M : z_Mem) : Option (z_Mem) :=
  F_Law_writes_L2 a w0 10000 0 M
def F_Law_number_B18 (a : Nat) (rec18 : Int32 → Int32 → z_Mem → Option (z_Mem)) (v1 : Int32) (v2 : Int32) (M : z_Mem) : Option (z_Mem) :=
  if v2 ≤ 0 then
    some M
  else
    if ¬ v2 = 0 then
    if z_inb (M.1 a 1) 800 then
    zl (z_wI M (a + 1) (M.1 a 1).toNatClampNeg (48 + ((v1 / v2) - (v1 / v2) / 10 * 10))) fun M3 =>
    zl (z_wI M3 a 1 ((M3.1 a 1) + 1)) fun M4 =>
    zl ((v2 / 10)) fun x5 =>
    rec18 v1 x5 M4
    else none
    else none
def F_Law_number_L18 (a : Nat) : Nat → Int32 → Int32 → z_Mem → Option (z_Mem)
  | 0, _, _, _ => none
  | n9 + 1, v1, v2, M => F_Law_number_B18 a (F_Law_number_L18 a n9) v1 v2 M
def F_Law_number_B2 (a : Nat) (rec2 : Int32 → Int32 → z_Mem → Option (z_Mem)) (v1 : Int32) (v2 : Int32) (M : z_Mem) : Option (z_Mem) :=
  if ¬ v2 = 0 then
  if (v1 / v2) ≤ 9 then
    F_Law_number_L18 a 10000 v1 v2 M
  else
    zl ((v2 * 10)) fun x1 =>
    rec2 v1 x1 M
  else none
def F_Law_number_L2 (a : Nat) : Nat → Int32 → Int32 → z_Mem → Option (z_Mem)
  | 0, _, _, _ => none
  | n9 + 1, v1, v2, M => F_Law_number_B2 a (F_Law_number_L2 a n9) v1 v2 M
def F_Law_number (a : Nat) (p0 : Int32) (M : z_Mem) : Option (z_Mem) :=
  F_Law_number_L2 a 10000 p0 1 M
def F_Law_cell (L9 : Nat) (S9 : Nat → Int32) (p1 : Int32) (M : z_Mem) : Option (Int32) :=
  if (Int32.ofNat L9) ≤ p1 then
    some (0)
  else
    if z_inb p1 L9 then
    some (((S9 p1.toNatClampNeg) &&& 1073741823))
    else none
def F_Law_clause_J61 (a : Nat) (w0 : Nat) (M : z_Mem) : Option (z_Mem) :=
  zb (F_Law_writes a 2 M) fun M10 =>
  some M10
def F_Law_clause_J44 (a : Nat) (w0 : Nat) (v5 : Int32) (M : z_Mem) : Option (z_Mem) :=
  if v5 < 0 then
    F_Law_clause_J61 a w0 M
  else
    zb (F_Law_writes a 1 M) fun M8 =>
    zb (F_Law_number a v5 M8) fun M9 =>
    F_Law_clause_J61 a w0 M9
def F_Law_clause (a : Nat) (w0 : Nat) (p1 : Int32) (p2 : Int32) (p3 : Int32) (p4 : Int32) (M : z_Mem) : Option (z_Mem) :=
  zb (F_Law_writes a w0 M) fun M1 =>
  zb (F_Law_writes a 1 M1) fun M2 =>
  zb (F_Law_number a p1 M2) fun M3 =>
  zb (F_Law_writes a 1 M3) fun M4 =>
  zb (F_Law_number a p2 M4) fun M5 =>
  if p3 < 0 then
    F_Law_clause_J44 a w0 p4 M5
  else
    zb (F_Law_writes a 1 M5) fun M6 =>
    zb (F_Law_number a p3 M6) fun M7 =>
    F_Law_clause_J44 a w0 p4 M7
def F_Law_rule (a : Nat) (w0 : Nat) (p1 : Int32) (M : z_Mem) : Option (z_Mem) :=
  zb (F_Law_writes a 3 M) fun M1 =>
  zb (F_Law_writes a w0 M1) fun M2 =>
  zb (F_Law_writes a 1 M2) fun M3 =>
  zb (F_Law_number a p1 M3) fun M4 =>
  zb (F_Law_writes a 2 M4) fun M5 =>
  some M5
def F_Law_asks (o : Nat) (a : Nat) (p1 : Int32) (M : z_Mem) : Option (z_Mem) :=
  if ¬ (M.1 a 2) = 0 then
  zl ((p1 - p1 / (M.1 a 2) * (M.1 a 2))) fun x1 =>
  if ¬ ((M.1 a 2) - 1) = 0 then
  if ¬ (M.1 a 2) = 0 then
  zl ((((x1 + 1) + ((p1 / 8) - (p1 / 8) / ((M.1 a 2) - 1) * ((M.1 a 2) - 1))) - ((x1 + 1) + ((p1 / 8) - (p1 / 8) / ((M.1 a 2) - 1) * ((M.1 a 2) - 1))) / (M.1 a 2) * (M.1 a 2))) fun x2 =>
  zb2 (F_Sys_ask o x1 x2 (1 + ((p1 / 64) - (p1 / 64) / 3 * 3)) ((p1 / 256) - (p1 / 256) / 20 * 20) ((p1 / 5120) - (p1 / 5120) / 200 * 200) M) fun x4 M3 =>
  if x4 < 0 then
    some M3
  else
    zl (z_wI M3 a 6 ((M3.1 a 6) + 1)) fun M5 =>
    some M5
  else none
  else none
  else none
def F_Law_acts (o : Nat) (a : Nat) (p1 : Int32) (M : z_Mem) : Option (z_Mem) :=
  zl ((p1 / 8)) fun x1 =>
  if (p1 - p1 / 8 * 8) = 0 then
    zb (F_Law_asks o a x1 M) fun M20 =>
    if (M20.1 a 6) ≤ 0 then
      some M20
    else
      zb2 (F_Sys_accept o ((M20.1 a 6) - 1) M20) fun x22 M21 =>
      some M21
  else
    if (p1 - p1 / 8 * 8) = 1 then
      zb (F_Law_asks o a x1 M) fun M17 =>
      if (M17.1 a 6) ≤ 0 then
        some M17
      else
        zb2 (F_Sys_accept o ((M17.1 a 6) - 1) M17) fun x19 M18 =>
        some M18
    else
      if (p1 - p1 / 8 * 8) = 2 then
        zb (F_Law_asks o a x1 M) fun M14 =>
        if (M14.1 a 6) ≤ 0 then
          some M14
        else
          zb2 (F_Sys_accept o ((M14.1 a 6) - 1) M14) fun x16 M15 =>
          some M15
      else
        if (p1 - p1 / 8 * 8) = 3 then
          zb2 (F_Sys_advance o (1 + (x1 - x1 / 25 * 25)) M) fun x13 M12 =>
          some M12
        else
          if (p1 - p1 / 8 * 8) = 4 then
            zb2 (F_Sys_advance o (1 + (x1 - x1 / 25 * 25)) M) fun x11 M10 =>
            some M10
          else
            if (p1 - p1 / 8 * 8) = 5 then
              zb2 (F_Sys_advance o (1 + (x1 - x1 / 25 * 25)) M) fun x9 M8 =>
              some M8
            else
              if (p1 - p1 / 8 * 8) = 6 then
                if (M.1 a 6) ≤ 0 then
                  some M
                else
                  if ¬ (M.1 a 6) = 0 then
                  zb2 (F_Sys_absent o (x1 - x1 / (M.1 a 6) * (M.1 a 6)) M) fun x6 M5 =>
                  some M5
                  else none
              else
                if ¬ (M.1 a 3) = 0 then
                zb2 (F_Sys_tip o (x1 - x1 / (M.1 a 3) * (M.1 a 3)) (1 + ((x1 / 4) - (x1 / 4) / 900 * 900)) M) fun x3 M2 =>
                some M2
                else none
def F_Law_isSettled_J116 (o : Nat) (a : Nat) (rec11 : Int32 → Int32 → Int32 → Int32 → Int32 → z_Mem → Option (Int32)) (v2 : Int32) (v3 : Int32) (v4 : Int32) (v5 : Int32) (v6 : Int32) (v7 : Int32) (M : z_Mem) : Option (Int32) :=
  if v7 = 3 then
    zb (F_Sys_ride o v6 11 M) fun x17 =>
    zb (F_Sys_ride o v6 10 M) fun x18 =>
    if x18 ≤ x17 then
      zl (v6 + 1) fun x19 =>
      rec11 v2 v3 v4 v5 x19 M
    else
      some (0)
  else
    zl (v6 + 1) fun x16 =>
    rec11 v2 v3 v4 v5 x16 M
def F_Law_isSettled_J96 (o : Nat) (a : Nat) (rec11 : Int32 → Int32 → Int32 → Int32 → Int32 → z_Mem → Option (Int32)) (v2 : Int32) (v3 : Int32) (v4 : Int32) (v6 : Int32) (v7 : Int32) (s0 : Int32) (s1 : Int32) (M : z_Mem) : Option (Int32) :=
  zl ((s1 + s0)) fun x14 =>
  if 2 ≤ v7 then
    F_Law_isSettled_J116 o a rec11 v2 v3 v4 x14 v6 v7 M
  else
    zb (F_Sys_ride o v6 12 M) fun x15 =>
    if x15 = 0 then
      F_Law_isSettled_J116 o a rec11 v2 v3 v4 x14 v6 v7 M
    else
      some (0)
def F_Law_isSettled_J77 (o : Nat) (a : Nat) (rec11 : Int32 → Int32 → Int32 → Int32 → Int32 → z_Mem → Option (Int32)) (v2 : Int32) (v3 : Int32) (v5 : Int32) (v6 : Int32) (v7 : Int32) (s0 : Int32) (s1 : Int32) (M : z_Mem) : Option (Int32) :=
  zl ((s1 + s0)) fun x13 =>
  if v7 = 5 then
    F_Law_isSettled_J96 o a rec11 v2 v3 x13 v6 v7 (M.1 a 5) v5 M
  else
    F_Law_isSettled_J96 o a rec11 v2 v3 x13 v6 v7 0 v5 M
def F_Law_isSettled_J69 (o : Nat) (a : Nat) (rec11 : Int32 → Int32 → Int32 → Int32 → Int32 → z_Mem → Option (Int32)) (v2 : Int32) (v3 : Int32) (v5 : Int32) (v6 : Int32) (v7 : Int32) (s0 : Int32) (M : z_Mem) : Option (Int32) :=
  F_Law_isSettled_J77 o a rec11 v2 v3 v5 v6 v7 (M.1 a 4) s0 M
def F_Law_isSettled_B11 (o : Nat) (a : Nat) (rec11 : Int32 → Int32 → Int32 → Int32 → Int32 → z_Mem → Option (Int32)) (v2 : Int32) (v3 : Int32) (v4 : Int32) (v5 : Int32) (v6 : Int32) (M : z_Mem) : Option (Int32) :=
  if (M.1 a 6) ≤ v6 then
    zb (F_Sys_account o v2 5 M) fun x1 =>
    if v3 = ((v4 + v5) + x1) then
      zb (F_Sys_account o v2 0 M) fun x2 =>
      zb (F_Sys_account o v2 1 M) fun x3 =>
      if x2 = (v3 + x3) then
        zb (F_Sys_account o v2 4 M) fun x4 =>
        zb (F_Sys_account o v2 3 M) fun x5 =>
        if x5 < x4 then
          some (0)
        else
          zb (F_Sys_account o v2 3 M) fun x6 =>
          zb (F_Sys_account o v2 2 M) fun x7 =>
          if x7 < x6 then
            some (0)
          else
            some (1)
      else
        some (0)
    else
      some (0)
  else
    zb (F_Sys_ride o v6 9 M) fun x8 =>
    if x8 = v2 then
      zb (F_Sys_ride o v6 0 M) fun x9 =>
      zb (F_Sys_ride o v6 12 M) fun x10 =>
      zl ((v3 + x10)) fun x11 =>
      if x9 = 2 then
        F_Law_isSettled_J69 o a rec11 v2 x11 v5 v6 x9 v4 M
      else
        if x9 = 3 then
          F_Law_isSettled_J69 o a rec11 v2 x11 v5 v6 x9 v4 M
        else
          F_Law_isSettled_J77 o a rec11 v2 x11 v5 v6 x9 0 v4 M
    else
      zl (v6 + 1) fun x12 =>
      rec11 v2 v3 v4 v5 x12 M
def F_Law_isSettled_L11 (o : Nat) (a : Nat) : Nat → Int32 → Int32 → Int32 → Int32 → Int32 → z_Mem → Option (Int32)
  | 0, _, _, _, _, _, _ => none
  | n9 + 1, v2, v3, v4, v5, v6, M => F_Law_isSettled_B11 o a (F_Law_isSettled_L11 o a n9) v2 v3 v4 v5 v6 M
def F_Law_isSettled (o : Nat) (a : Nat) (p1 : Int32) (M : z_Mem) : Option (Int32) :=
  F_Law_isSettled_L11 o a 10000 p1 0 0 0 0 M
def F_Law_holds_B21 (L9 : Nat) (S9 : Nat → Int32) (o : Nat) (a : Nat) (rec2 : Int32 → z_Mem → Option (Int32 × z_Mem)) (rec21 : Int32 → Int32 → z_Mem → Option (Int32 × z_Mem)) (v3 : Int32) (v4 : Int32) (M : z_Mem) : Option (Int32 × z_Mem) :=
  if (M.1 a 3) ≤ v4 then
    zl (v3 + 1) fun x3 =>
    rec2 x3 M
  else
    zb (F_Law_isSettled o a v4 M) fun x4 =>
    if x4 = 0 then
      some (0, M)
    else
      zl (v4 + 1) fun x5 =>
      rec21 v3 x5 M
def F_Law_holds_L21 (L9 : Nat) (S9 : Nat → Int32) (o : Nat) (a : Nat) (rec2 : Int32 → z_Mem → Option (Int32 × z_Mem)) : Nat → Int32 → Int32 → z_Mem → Option (Int32 × z_Mem)
  | 0, _, _, _ => none
  | n9 + 1, v3, v4, M => F_Law_holds_B21 L9 S9 o a rec2 (F_Law_holds_L21 L9 S9 o a rec2 n9) v3 v4 M
def F_Law_holds_B2 (L9 : Nat) (S9 : Nat → Int32) (o : Nat) (a : Nat) (rec2 : Int32 → z_Mem → Option (Int32 × z_Mem)) (v3 : Int32) (M : z_Mem) : Option (Int32 × z_Mem) :=
  if 30 ≤ v3 then
    some (1, M)
  else
    zb (F_Law_cell L9 S9 v3 M) fun x1 =>
    zb (F_Law_acts o a x1 M) fun M2 =>
    F_Law_holds_L21 L9 S9 o a rec2 10000 v3 0 M2
def F_Law_holds_L2 (L9 : Nat) (S9 : Nat → Int32) (o : Nat) (a : Nat) : Nat → Int32 → z_Mem → Option (Int32 × z_Mem)
  | 0, _, _ => none
  | n9 + 1, v3, M => F_Law_holds_B2 L9 S9 o a (F_Law_holds_L2 L9 S9 o a n9) v3 M
def F_Law_holds (L9 : Nat) (S9 : Nat → Int32) (o : Nat) (a : Nat) (M : z_Mem) : Option (Int32 × z_Mem) :=
  F_Law_holds_L2 L9 S9 o a 10000 2 M
