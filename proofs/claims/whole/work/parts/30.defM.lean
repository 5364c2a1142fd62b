/-! ===== the reference's methods as terms (by program) ===== -/
def F_Model_begins_B43 (a : Nat) (rec43 : Int32 → z_Mem → Option (z_Mem)) (v2 : Int32) (M : z_Mem) : Option (z_Mem) :=
  if 581 ≤ v2 then
    if z_inb 3 581 then
    zl (z_wI M (a + 2) (3 : Int32).toNatClampNeg 15) fun M7 =>
    if z_inb 4 581 then
    zl (z_wI M7 (a + 2) (4 : Int32).toNatClampNeg 1) fun M8 =>
    if z_inb 5 581 then
    zl (z_wI M8 (a + 2) (5 : Int32).toNatClampNeg 5) fun M9 =>
    if z_inb 6 581 then
    zl (z_wI M9 (a + 2) (6 : Int32).toNatClampNeg 3) fun M10 =>
    if z_inb 8 581 then
    zl (z_wI M10 (a + 2) (8 : Int32).toNatClampNeg 240) fun M11 =>
    if z_inb 9 581 then
    zl (z_wI M11 (a + 2) (9 : Int32).toNatClampNeg 30) fun M12 =>
    some M12
    else none
    else none
    else none
    else none
    else none
    else none
  else
    if z_inb v2 581 then
    zl (z_wI M (a + 2) v2.toNatClampNeg 0) fun M13 =>
    zl (v2 + 1) fun x14 =>
    rec43 x14 M13
    else none
def F_Model_begins_L43 (a : Nat) : Nat → Int32 → z_Mem → Option (z_Mem)
  | 0, _, _ => none
  | n9 + 1, v2, M => F_Model_begins_B43 a (F_Model_begins_L43 a n9) v2 M
def F_Model_begins_B22 (a : Nat) (rec22 : Int32 → z_Mem → Option (z_Mem)) (v2 : Int32) (M : z_Mem) : Option (z_Mem) :=
  if 64 ≤ v2 then
    F_Model_begins_L43 a 10000 0 M
  else
    if z_inb v2 64 then
    zl (z_wI M (a + 5) v2.toNatClampNeg (-1)) fun M5 =>
    zl (v2 + 1) fun x6 =>
    rec22 x6 M5
    else none
def F_Model_begins_L22 (a : Nat) : Nat → Int32 → z_Mem → Option (z_Mem)
  | 0, _, _ => none
  | n9 + 1, v2, M => F_Model_begins_B22 a (F_Model_begins_L22 a n9) v2 M
def F_Model_begins (a : Nat) (p0 : Int32) (M : z_Mem) : Option (z_Mem) :=
  zl (z_wI M a 7 p0) fun M1 =>
  zl (z_wI M1 a 8 0) fun M2 =>
  zl (z_wI M2 a 9 0) fun M3 =>
  zl (z_wI M3 a 10 0) fun M4 =>
  F_Model_begins_L22 a 10000 0 M4
def F_Model_laysWays_J94 (a : Nat) (rec2 : Int32 → z_Mem → Option (z_Mem)) (rec12 : Int32 → Int32 → z_Mem → Option (z_Mem)) (rec22 : Int32 → Int32 → Int32 → z_Mem → Option (z_Mem)) (v1 : Int32) (v2 : Int32) (v3 : Int32) (v4 : Int32) (v5 : Int32) (M : z_Mem) : Option (z_Mem) :=
  if z_inb ((8 * v2) + v3) 64 then
  zl (z_wI M (a + 9) ((8 * v2) + v3).toNatClampNeg (v4 + v5)) fun M9 =>
  zl (v3 + 1) fun x10 =>
  rec22 v1 v2 x10 M9
  else none
def F_Model_laysWays_B22 (a : Nat) (rec2 : Int32 → z_Mem → Option (z_Mem)) (rec12 : Int32 → Int32 → z_Mem → Option (z_Mem)) (rec22 : Int32 → Int32 → Int32 → z_Mem → Option (z_Mem)) (v1 : Int32) (v2 : Int32) (v3 : Int32) (M : z_Mem) : Option (z_Mem) :=
  if (M.1 a 15) ≤ v3 then
    zl (v2 + 1) fun x2 =>
    rec12 v1 x2 M
  else
    if z_inb ((8 * v2) + v1) 64 then
    zl ((M.1 (a + 9) ((8 * v2) + v1).toNatClampNeg)) fun x3 =>
    if z_inb ((8 * v1) + v3) 64 then
    zl ((M.1 (a + 9) ((8 * v1) + v3).toNatClampNeg)) fun x4 =>
    if z_inb ((8 * v2) + v3) 64 then
    zl ((M.1 (a + 9) ((8 * v2) + v3).toNatClampNeg)) fun x5 =>
    if x3 < 0 then
      zl (v3 + 1) fun x6 =>
      rec22 v1 v2 x6 M
    else
      if x4 < 0 then
        zl (v3 + 1) fun x7 =>
        rec22 v1 v2 x7 M
      else
        if x5 < 0 then
          F_Model_laysWays_J94 a rec2 rec12 rec22 v1 v2 v3 x3 x4 M
        else
          if x5 ≤ (x3 + x4) then
            zl (v3 + 1) fun x8 =>
            rec22 v1 v2 x8 M
          else
            F_Model_laysWays_J94 a rec2 rec12 rec22 v1 v2 v3 x3 x4 M
    else none
    else none
    else none
def F_Model_laysWays_L22 (a : Nat) (rec2 : Int32 → z_Mem → Option (z_Mem)) (rec12 : Int32 → Int32 → z_Mem → Option (z_Mem)) : Nat → Int32 → Int32 → Int32 → z_Mem → Option (z_Mem)
  | 0, _, _, _, _ => none
  | n9 + 1, v1, v2, v3, M => F_Model_laysWays_B22 a rec2 rec12 (F_Model_laysWays_L22 a rec2 rec12 n9) v1 v2 v3 M
def F_Model_laysWays_B12 (a : Nat) (rec2 : Int32 → z_Mem → Option (z_Mem)) (rec12 : Int32 → Int32 → z_Mem → Option (z_Mem)) (v1 : Int32) (v2 : Int32) (M : z_Mem) : Option (z_Mem) :=
  if (M.1 a 15) ≤ v2 then
    zl (v1 + 1) fun x1 =>
    rec2 x1 M
  else
    F_Model_laysWays_L22 a rec2 rec12 10000 v1 v2 0 M
def F_Model_laysWays_L12 (a : Nat) (rec2 : Int32 → z_Mem → Option (z_Mem)) : Nat → Int32 → Int32 → z_Mem → Option (z_Mem)
  | 0, _, _, _ => none
  | n9 + 1, v1, v2, M => F_Model_laysWays_B12 a rec2 (F_Model_laysWays_L12 a rec2 n9) v1 v2 M
def F_Model_laysWays_B2 (a : Nat) (rec2 : Int32 → z_Mem → Option (z_Mem)) (v1 : Int32) (M : z_Mem) : Option (z_Mem) :=
  if (M.1 a 15) ≤ v1 then
    some M
  else
    F_Model_laysWays_L12 a rec2 10000 v1 0 M
def F_Model_laysWays_L2 (a : Nat) : Nat → Int32 → z_Mem → Option (z_Mem)
  | 0, _, _ => none
  | n9 + 1, v1, M => F_Model_laysWays_B2 a (F_Model_laysWays_L2 a n9) v1 M
def F_Model_laysWays (a : Nat) (M : z_Mem) : Option (z_Mem) :=
  F_Model_laysWays_L2 a 10000 0 M
def F_Model_becomes_B112 (a : Nat) (rec112 : Int32 → z_Mem → Option (z_Mem)) (v1 : Int32) (M : z_Mem) : Option (z_Mem) :=
  if 581 ≤ v1 then
    zb (F_Model_laysWays a M) fun M8 =>
    zl (z_wI M8 a 6 0) fun M9 =>
    zl (z_wI M9 a 5 0) fun M10 =>
    some M10
  else
    if z_inb v1 581 then
    if z_inb v1 581 then
    zl (z_wI M (a + 1) v1.toNatClampNeg (M.1 (a + 2) v1.toNatClampNeg)) fun M11 =>
    zl (v1 + 1) fun x12 =>
    rec112 x12 M11
    else none
    else none
def F_Model_becomes_L112 (a : Nat) : Nat → Int32 → z_Mem → Option (z_Mem)
  | 0, _, _ => none
  | n9 + 1, v1, M => F_Model_becomes_B112 a (F_Model_becomes_L112 a n9) v1 M
def F_Model_becomes_B75 (a : Nat) (rec75 : Int32 → z_Mem → Option (z_Mem)) (v1 : Int32) (M : z_Mem) : Option (z_Mem) :=
  if 4 ≤ v1 then
    F_Model_becomes_L112 a 10000 0 M
  else
    if z_inb v1 4 then
    if z_inb v1 4 then
    zl (z_wI M (a + 10) v1.toNatClampNeg (M.1 (a + 6) v1.toNatClampNeg)) fun M5 =>
    if z_inb v1 4 then
    if z_inb v1 4 then
    zl (z_wI M5 (a + 11) v1.toNatClampNeg (M5.1 (a + 7) v1.toNatClampNeg)) fun M6 =>
    zl (v1 + 1) fun x7 =>
    rec75 x7 M6
    else none
    else none
    else none
    else none
def F_Model_becomes_L75 (a : Nat) : Nat → Int32 → z_Mem → Option (z_Mem)
  | 0, _, _ => none
  | n9 + 1, v1, M => F_Model_becomes_B75 a (F_Model_becomes_L75 a n9) v1 M
def F_Model_becomes_J66 (a : Nat) (rec34 : Int32 → z_Mem → Option (z_Mem)) (v1 : Int32) (s0 : Int32) (s1 : Int32) (M : z_Mem) : Option (z_Mem) :=
  if z_inb s1 64 then
  zl (z_wI M (a + 9) s1.toNatClampNeg s0) fun M13 =>
  zl (v1 + 1) fun x14 =>
  rec34 x14 M13
  else none
def F_Model_becomes_B34 (a : Nat) (rec34 : Int32 → z_Mem → Option (z_Mem)) (v1 : Int32) (M : z_Mem) : Option (z_Mem) :=
  if 64 ≤ v1 then
    F_Model_becomes_L75 a 10000 0 M
  else
    if (v1 / 8) = (v1 - v1 / 8 * 8) then
      F_Model_becomes_J66 a rec34 v1 0 v1 M
    else
      if z_inb v1 64 then
      F_Model_becomes_J66 a rec34 v1 (M.1 (a + 5) v1.toNatClampNeg) v1 M
      else none
def F_Model_becomes_L34 (a : Nat) : Nat → Int32 → z_Mem → Option (z_Mem)
  | 0, _, _ => none
  | n9 + 1, v1, M => F_Model_becomes_B34 a (F_Model_becomes_L34 a n9) v1 M
def F_Model_becomes (a : Nat) (M : z_Mem) : Option (z_Mem) :=
  zl (z_wI M a 15 (M.1 a 7)) fun M1 =>
  zl (z_wI M1 a 16 (M1.1 a 8)) fun M2 =>
  zl (z_wI M2 a 17 (M2.1 a 9)) fun M3 =>
  zl (z_wI M3 a 18 (M3.1 a 10)) fun M4 =>
  F_Model_becomes_L34 a 10000 0 M4
def F_Model_thrown (a : Nat) (M : z_Mem) : Option (Int32) :=
  some ((M.1 a 0))
def F_Model_in (p0 : Int64) (p1 : Int64) (p2 : Int64) (M : z_Mem) : Option (Int32) :=
  if (lg_cmp p0 p1) < 0 then
    some (0)
  else
    if 0 < (lg_cmp p0 p2) then
      some (0)
    else
      some (1)
def F_Model_fails (a : Nat) (p0 : Int32) (p1 : Int32) (M : z_Mem) : Option (Int32 × z_Mem) :=
  if p0 = 0 then
    zl (z_wI M a 0 p1) fun M1 =>
    some (1, M1)
  else
    some (0, M)
def F_Model_greater (p0 : Int32) (p1 : Int32) (M : z_Mem) : Option (Int32) :=
  if p0 ≤ p1 then
    some (p1)
  else
    some (p0)
def F_Model_lesser (p0 : Int32) (p1 : Int32) (M : z_Mem) : Option (Int32) :=
  if p1 ≤ p0 then
    some (p1)
  else
    some (p0)
def F_Model_of (a : Nat) (p0 : Int32) (p1 : Int32) (M : z_Mem) : Option (Int32) :=
  if z_inb ((173 + (17 * p0)) + p1) 581 then
  some ((M.1 (a + 1) ((173 + (17 * p0)) + p1).toNatClampNeg))
  else none
def F_Model_sets (a : Nat) (p0 : Int32) (p1 : Int32) (p2 : Int32) (M : z_Mem) : Option (z_Mem) :=
  if z_inb ((173 + (17 * p0)) + p1) 581 then
  zl (z_wI M (a + 1) ((173 + (17 * p0)) + p1).toNatClampNeg p2) fun M1 =>
  some M1
  else none
def F_Model_in2 (a : Nat) (p0 : Int32) (p1 : Int32) (M : z_Mem) : Option (Int32) :=
  if z_inb ((13 + (40 * p0)) + p1) 581 then
  some ((M.1 (a + 1) ((13 + (40 * p0)) + p1).toNatClampNeg))
  else none
def F_Model_lays2 (a : Nat) (p0 : Int32) (p1 : Int32) (p2 : Int32) (M : z_Mem) : Option (z_Mem) :=
  if z_inb ((13 + (40 * p0)) + p1) 581 then
  zl (z_wI M (a + 1) ((13 + (40 * p0)) + p1).toNatClampNeg p2) fun M1 =>
  some M1
  else none
def F_Model_grows (a : Nat) (p0 : Int32) (p1 : Int32) (p2 : Int32) (M : z_Mem) : Option (z_Mem) :=
  if z_inb ((13 + (40 * p0)) + p1) 581 then
  if z_inb ((13 + (40 * p0)) + p1) 581 then
  zl (z_wI M (a + 1) ((13 + (40 * p0)) + p1).toNatClampNeg ((M.1 (a + 1) ((13 + (40 * p0)) + p1).toNatClampNeg) + p2)) fun M1 =>
  some M1
  else none
  else none
def F_Model_ruled (a : Nat) (p0 : Int32) (M : z_Mem) : Option (Int32) :=
  if z_inb (3 + p0) 581 then
  some ((M.1 (a + 1) (3 + p0).toNatClampNeg))
  else none
def F_Model_least_J11 (M : z_Mem) : Option (Int32) :=
  some (1)
def F_Model_least (p0 : Int32) (M : z_Mem) : Option (Int32) :=
  if p0 = 5 then
    F_Model_least_J11 M
  else
    if p0 = 6 then
      F_Model_least_J11 M
    else
      some (0)
def F_Model_most (p0 : Int32) (M : z_Mem) : Option (Int32) :=
  if p0 = 0 then
    some (60)
  else
    if p0 = 1 then
      some (9)
    else
      if p0 = 2 then
        some (60)
      else
        if p0 = 3 then
          some (30)
        else
          if p0 = 4 then
            some (9999)
          else
            if p0 = 5 then
              some (999)
            else
              if p0 = 6 then
                some (99)
              else
                some (90)
def F_Model_lays_B3 (a : Nat) (rec3 : Int32 → Int32 → z_Mem → Option (z_Mem)) (v1 : Int32) (v2 : Int32) (M : z_Mem) : Option (z_Mem) :=
  if v2 < 0 then
    some M
  else
    if z_inb (M.1 a 23) 800 then
    zl (z_wI M (a + 12) (M.1 a 23).toNatClampNeg ((v1 >>> (v2 &&& 31)) &&& 255)) fun M1 =>
    zl (z_wI M1 a 23 ((M1.1 a 23) + 1)) fun M2 =>
    zl (v2 + (-8)) fun x3 =>
    rec3 v1 x3 M2
    else none
def F_Model_lays_L3 (a : Nat) : Nat → Int32 → Int32 → z_Mem → Option (z_Mem)
  | 0, _, _, _ => none
  | n9 + 1, v1, v2, M => F_Model_lays_B3 a (F_Model_lays_L3 a n9) v1 v2 M
def F_Model_lays (a : Nat) (p0 : Int32) (M : z_Mem) : Option (z_Mem) :=
  F_Model_lays_L3 a 10000 p0 24 M
def F_Model_feed (a : Nat) (p0 : Int32) (p1 : Int32) (p2 : Int32) (p3 : Int32) (p4 : Int32) (M : z_Mem) : Option (Int32 × z_Mem) :=
  zl (z_wI M a 0 0) fun M1 =>
  if ((M1.1 a 23) + 20) ≤ 800 then
    zb (F_Model_lays a p0 M1) fun M2 =>
    zb (F_Model_lays a p1 M2) fun M3 =>
    zb (F_Model_lays a p2 M3) fun M4 =>
    zb (F_Model_lays a p3 M4) fun M5 =>
    zb (F_Model_lays a p4 M5) fun M6 =>
    some ((M6.1 a 23), M6)
  else
    some ((-1), M1)
def F_Model_errorPosition (a : Nat) (M : z_Mem) : Option (Int32 × z_Mem) :=
  zl (z_wI M a 0 0) fun M1 =>
  some ((M1.1 a 31), M1)
def F_Model_byteAt (a : Nat) (p0 : Int32) (M : z_Mem) : Option (Int32) :=
  if (M.1 a 24) ≤ p0 then
    some ((-1))
  else
    if z_inb p0 800 then
    some ((M.1 (a + 12) p0.toNatClampNeg))
    else none
def F_Model_isLetter (p0 : Int32) (M : z_Mem) : Option (Int32) :=
  if p0 < 97 then
    some (0)
  else
    if 122 < p0 then
      some (0)
    else
      some (1)
def F_Model_isFigure (p0 : Int32) (M : z_Mem) : Option (Int32) :=
  if p0 < 48 then
    some (0)
  else
    if 57 < p0 then
      some (0)
    else
      some (1)
def F_Model_readsWord_J60 (a : Nat) (rec5 : z_Mem → Option (z_Mem)) (M : z_Mem) : Option (z_Mem) :=
  zl (z_wI M a 25 ((M.1 a 25) + 1)) fun M6 =>
  rec5 M6
def F_Model_readsWord_B5 (a : Nat) (rec5 : z_Mem → Option (z_Mem)) (M : z_Mem) : Option (z_Mem) :=
  zb (F_Model_byteAt a (M.1 a 25) M) fun x2 =>
  zb (F_Model_isLetter x2 M) fun x3 =>
  if x3 = 0 then
    zl (z_wI M a 27 1) fun M4 =>
    some M4
  else
    if 10 ≤ ((M.1 a 25) - (M.1 a 26)) then
      F_Model_readsWord_J60 a rec5 M
    else
      if z_inb (M.1 a 25) 800 then
      zl (z_wL M a 29 (((27 * (M.2 a 29)) + (M.1 (a + 12) (M.1 a 25).toNatClampNeg).toInt64) - 96)) fun M5 =>
      F_Model_readsWord_J60 a rec5 M5
      else none
def F_Model_readsWord_L5 (a : Nat) : Nat → z_Mem → Option (z_Mem)
  | 0, _ => none
  | n9 + 1, M => F_Model_readsWord_B5 a (F_Model_readsWord_L5 a n9) M
def F_Model_readsWord (a : Nat) (M : z_Mem) : Option (z_Mem) :=
  zl (z_wL M a 29 0) fun M1 =>
  F_Model_readsWord_L5 a 10000 M1
def F_Model_readsNumber_J56 (a : Nat) (rec5 : z_Mem → Option (z_Mem)) (s0 : Int32) (M : z_Mem) : Option (z_Mem) :=
  zl (z_wI M a 28 s0) fun M5 =>
  zl (z_wI M5 a 25 ((M5.1 a 25) + 1)) fun M6 =>
  rec5 M6
def F_Model_readsNumber_B5 (a : Nat) (rec5 : z_Mem → Option (z_Mem)) (M : z_Mem) : Option (z_Mem) :=
  zb (F_Model_byteAt a (M.1 a 25) M) fun x2 =>
  zb (F_Model_isFigure x2 M) fun x3 =>
  if x3 = 0 then
    zl (z_wI M a 27 2) fun M4 =>
    some M4
  else
    if (M.1 a 28) ≤ 9999999 then
      if z_inb (M.1 a 25) 800 then
      F_Model_readsNumber_J56 a rec5 (((10 * (M.1 a 28)) + (M.1 (a + 12) (M.1 a 25).toNatClampNeg)) - 48) M
      else none
    else
      F_Model_readsNumber_J56 a rec5 (M.1 a 28) M
def F_Model_readsNumber_L5 (a : Nat) : Nat → z_Mem → Option (z_Mem)
  | 0, _ => none
  | n9 + 1, M => F_Model_readsNumber_B5 a (F_Model_readsNumber_L5 a n9) M
def F_Model_readsNumber (a : Nat) (M : z_Mem) : Option (z_Mem) :=
  zl (z_wI M a 28 0) fun M1 =>
  F_Model_readsNumber_L5 a 10000 M1
def F_Model_next_J26 (a : Nat) (rec0 : z_Mem → Option (z_Mem)) (M : z_Mem) : Option (z_Mem) :=
  zl (z_wI M a 25 ((M.1 a 25) + 1)) fun M11 =>
  rec0 M11
def F_Model_next_B0 (a : Nat) (rec0 : z_Mem → Option (z_Mem)) (M : z_Mem) : Option (z_Mem) :=
  zb (F_Model_byteAt a (M.1 a 25) M) fun x1 =>
  if x1 = 32 then
    F_Model_next_J26 a rec0 M
  else
    zb (F_Model_byteAt a (M.1 a 25) M) fun x2 =>
    if x2 = 10 then
      F_Model_next_J26 a rec0 M
    else
      zl (z_wI M a 26 (M.1 a 25)) fun M3 =>
      if (M3.1 a 25) < (M3.1 a 24) then
        if z_inb (M3.1 a 25) 800 then
        zb (F_Model_isLetter (M3.1 (a + 12) (M3.1 a 25).toNatClampNeg) M3) fun x4 =>
        if x4 = 0 then
          if z_inb (M3.1 a 25) 800 then
          zb (F_Model_isFigure (M3.1 (a + 12) (M3.1 a 25).toNatClampNeg) M3) fun x5 =>
          if x5 = 0 then
            zl (z_wI M3 a 27 3) fun M6 =>
            zl (z_wI M6 a 25 ((M6.1 a 25) + 1)) fun M7 =>
            some M7
          else
            zb (F_Model_readsNumber a M3) fun M8 =>
            some M8
          else none
        else
          zb (F_Model_readsWord a M3) fun M9 =>
          some M9
        else none
      else
        zl (z_wI M3 a 27 0) fun M10 =>
        some M10
def F_Model_next_L0 (a : Nat) : Nat → z_Mem → Option (z_Mem)
  | 0, _ => none
  | n9 + 1, M => F_Model_next_B0 a (F_Model_next_L0 a n9) M
def F_Model_next (a : Nat) (M : z_Mem) : Option (z_Mem) :=
  F_Model_next_L0 a 10000 M
def F_Model_starts (a : Nat) (p0 : Int32) (M : z_Mem) : Option (z_Mem) :=
  zl (z_wI M a 24 p0) fun M1 =>
  zl (z_wI M1 a 23 0) fun M2 =>
  zl (z_wI M2 a 25 0) fun M3 =>
  zl (z_wI M3 a 30 0) fun M4 =>
  zl (z_wI M4 a 31 (-1)) fun M5 =>
  zb (F_Model_next a M5) fun M6 =>
  some M6
def F_Model_wrongs (a : Nat) (p0 : Int32) (M : z_Mem) : Option (Int32 × z_Mem) :=
  if (M.1 a 30) = 0 then
    zl (z_wI M a 30 p0) fun M1 =>
    zl (z_wI M1 a 31 (M1.1 a 26)) fun M2 =>
    some (0, M2)
  else
    some (0, M)
def F_Model_isGood (a : Nat) (M : z_Mem) : Option (Int32) :=
  if (M.1 a 30) = 0 then
    some (1)
  else
    some (0)
def F_Model_isWord (a : Nat) (p0 : Int64) (M : z_Mem) : Option (Int32) :=
  zb (F_Model_isGood a M) fun x1 =>
  if x1 = 0 then
    some (0)
  else
    if (M.1 a 27) = 1 then
      if 10 < ((M.1 a 25) - (M.1 a 26)) then
        some (0)
      else
        if (lg_cmp (M.2 a 29) p0) = 0 then
          some (1)
        else
          some (0)
    else
      some (0)
def F_Model_passes (a : Nat) (p0 : Int64) (M : z_Mem) : Option (Int32 × z_Mem) :=
  zb (F_Model_isWord a p0 M) fun x1 =>
  if x1 = 0 then
    some (0, M)
  else
    zb (F_Model_next a M) fun M2 =>
    some (1, M2)
def F_Model_isByte (a : Nat) (p0 : Int32) (M : z_Mem) : Option (Int32) :=
  zb (F_Model_isGood a M) fun x1 =>
  if x1 = 0 then
    some (0)
  else
    if (M.1 a 27) = 3 then
      if z_inb (M.1 a 26) 800 then
      if (M.1 (a + 12) (M.1 a 26).toNatClampNeg) = p0 then
        some (1)
      else
        some (0)
      else none
    else
      some (0)
def F_Model_must (a : Nat) (p0 : Int32) (M : z_Mem) : Option (z_Mem) :=
  zb (F_Model_isGood a M) fun x1 =>
  if x1 = 0 then
    some M
  else
    zb (F_Model_isByte a p0 M) fun x2 =>
    if x2 = 0 then
      zb2 (F_Model_wrongs a 1 M) fun x4 M3 =>
      some M3
    else
      zb (F_Model_next a M) fun M5 =>
      some M5
def F_Model_number_J47 (a : Nat) (v1 : Int32) (M : z_Mem) : Option (Int32 × z_Mem) :=
  zb (F_Model_isGood a M) fun x7 =>
  if x7 = 0 then
    some (v1, M)
  else
    zl ((M.1 a 28)) fun x8 =>
    zb (F_Model_next a M) fun M9 =>
    some (x8, M9)
def F_Model_number (a : Nat) (p0 : Int32) (p1 : Int32) (M : z_Mem) : Option (Int32 × z_Mem) :=
  zb (F_Model_isGood a M) fun x1 =>
  if x1 = 0 then
    some (p0, M)
  else
    if (M.1 a 27) = 2 then
      zb (F_Model_in ((M.1 a 28).toInt64) p0.toInt64 p1.toInt64 M) fun x2 =>
      if x2 = 0 then
        zb2 (F_Model_wrongs a 2 M) fun x4 M3 =>
        F_Model_number_J47 a p0 M3
      else
        F_Model_number_J47 a p0 M
    else
      zb2 (F_Model_wrongs a 1 M) fun x6 M5 =>
      F_Model_number_J47 a p0 M5
def F_Model_ruleHere (a : Nat) (M : z_Mem) : Option (Int32) :=
  zb (F_Model_isWord a 453701 M) fun x1 =>
  if x1 = 0 then
    zb (F_Model_isWord a 2582454 M) fun x2 =>
    if x2 = 0 then
      zb (F_Model_isWord a 8094240 M) fun x3 =>
      if x3 = 0 then
        zb (F_Model_isWord a 168044941553 M) fun x4 =>
        if x4 = 0 then
          zb (F_Model_isWord a 4514 M) fun x5 =>
          if x5 = 0 then
            zb (F_Model_isWord a 10497998 M) fun x6 =>
            if x6 = 0 then
              zb (F_Model_isWord a 358472 M) fun x7 =>
              if x7 = 0 then
                some ((-1))
              else
                some (6)
            else
              some (5)
          else
            some (4)
        else
          some (3)
      else
        some (2)
    else
      some (1)
  else
    some (0)
def F_Model_roadRead_J77 (a : Nat) (v1 : Int32) (M : z_Mem) : Option (z_Mem) :=
  zb2 (F_Model_number a 0 ((M.1 a 7) - 1) M) fun x6 M5 =>
  zb2 (F_Model_number a 1 99 M5) fun x8 M7 =>
  zb (F_Model_isGood a M7) fun x9 =>
  if x9 = 0 then
    some M7
  else
    if z_inb ((8 * v1) + x6) 64 then
    zl (z_wI M7 (a + 5) ((8 * v1) + x6).toNatClampNeg x8) fun M10 =>
    if z_inb ((8 * x6) + v1) 64 then
    zl (z_wI M10 (a + 5) ((8 * x6) + v1).toNatClampNeg x8) fun M11 =>
    zl (z_wI M11 a 8 ((M11.1 a 8) + 1)) fun M12 =>
    some M12
    else none
    else none
def F_Model_roadRead_J71 (a : Nat) (v1 : Int32) (M : z_Mem) : Option (z_Mem) :=
  zb2 (F_Model_wrongs a 4 M) fun x14 M13 =>
  F_Model_roadRead_J77 a v1 M13
def F_Model_roadRead (a : Nat) (M : z_Mem) : Option (z_Mem) :=
  zb2 (F_Model_number a 0 ((M.1 a 7) - 1) M) fun x2 M1 =>
  zb (F_Model_isGood a M1) fun x3 =>
  if x3 = 0 then
    F_Model_roadRead_J77 a x2 M1
  else
    if (M1.1 a 27) = 2 then
      zb (F_Model_in ((M1.1 a 28).toInt64) 0 (((M1.1 a 7) - 1).toInt64) M1) fun x4 =>
      if x4 = 0 then
        F_Model_roadRead_J77 a x2 M1
      else
        if (M1.1 a 28) = x2 then
          F_Model_roadRead_J71 a x2 M1
        else
          if z_inb ((8 * x2) + (M1.1 a 28)) 64 then
          if (M1.1 (a + 5) ((8 * x2) + (M1.1 a 28)).toNatClampNeg) < 0 then
            F_Model_roadRead_J77 a x2 M1
          else
            F_Model_roadRead_J71 a x2 M1
          else none
    else
      F_Model_roadRead_J77 a x2 M1
def F_Model_taxiRead_J73 (a : Nat) (v1 : Int32) (v2 : Int32) (v3 : Int32) (M : z_Mem) : Option (z_Mem) :=
  zb2 (F_Model_number a 0 2879 M) fun x12 M11 =>
  zb (F_Model_isGood a M11) fun x13 =>
  if x13 = 0 then
    some M11
  else
    zl ((13 + (40 * (M11.1 a 9)))) fun x14 =>
    if z_inb (M11.1 a 9) 4 then
    zl (z_wI M11 (a + 6) (M11.1 a 9).toNatClampNeg v1) fun M15 =>
    if z_inb (M15.1 a 9) 4 then
    zl (z_wI M15 (a + 7) (M15.1 a 9).toNatClampNeg v3) fun M16 =>
    if z_inb (x14 + 0) 581 then
    zl (z_wI M16 (a + 2) (x14 + 0).toNatClampNeg v2) fun M17 =>
    if z_inb (x14 + 1) 581 then
    zl (z_wI M17 (a + 2) (x14 + 1).toNatClampNeg v3) fun M18 =>
    if z_inb (x14 + 3) 581 then
    zl (z_wI M18 (a + 2) (x14 + 3).toNatClampNeg (-1)) fun M19 =>
    if z_inb (x14 + 4) 581 then
    zl (z_wI M19 (a + 2) (x14 + 4).toNatClampNeg x12) fun M20 =>
    zl (z_wI M20 a 9 ((M20.1 a 9) + 1)) fun M21 =>
    some M21
    else none
    else none
    else none
    else none
    else none
    else none
def F_Model_taxiRead (a : Nat) (M : z_Mem) : Option (z_Mem) :=
  zb2 (F_Model_number a 1 6 M) fun x2 M1 =>
  zb2 (F_Model_number a 0 ((M1.1 a 7) - 1) M1) fun x4 M3 =>
  zb2 (F_Model_number a 0 2879 M3) fun x6 M5 =>
  zb (F_Model_isGood a M5) fun x7 =>
  if x7 = 0 then
    F_Model_taxiRead_J73 a x2 x4 x6 M5
  else
    if (M5.1 a 27) = 2 then
      zb (F_Model_in ((M5.1 a 28).toInt64) 0 2879 M5) fun x8 =>
      if x8 = 0 then
        F_Model_taxiRead_J73 a x2 x4 x6 M5
      else
        if x6 < (M5.1 a 28) then
          F_Model_taxiRead_J73 a x2 x4 x6 M5
        else
          zb2 (F_Model_wrongs a 4 M5) fun x10 M9 =>
          F_Model_taxiRead_J73 a x2 x4 x6 M9
    else
      F_Model_taxiRead_J73 a x2 x4 x6 M5
def F_Model_ruleRead (a : Nat) (M : z_Mem) : Option (z_Mem) :=
  zb (F_Model_ruleHere a M) fun x1 =>
  if x1 = (-1) then
    zb2 (F_Model_wrongs a 1 M) fun x10 M9 =>
    some M9
  else
    zb (F_Model_next a M) fun M2 =>
    zb (F_Model_least x1 M2) fun x3 =>
    zb (F_Model_most x1 M2) fun x4 =>
    zb2 (F_Model_number a x3 x4 M2) fun x6 M5 =>
    zb (F_Model_isGood a M5) fun x7 =>
    if x7 = 0 then
      some M5
    else
      if z_inb (3 + x1) 581 then
      zl (z_wI M5 (a + 2) (3 + x1).toNatClampNeg x6) fun M8 =>
      some M8
      else none
def F_Model_clauseRead_J185 (a : Nat) (M : z_Mem) : Option (z_Mem) :=
  zb (F_Model_must a 59 M) fun M28 =>
  some M28
def F_Model_clauseRead_J159 (a : Nat) (M : z_Mem) : Option (z_Mem) :=
  F_Model_clauseRead_J185 a M
def F_Model_clauseRead_J112 (a : Nat) (M : z_Mem) : Option (z_Mem) :=
  F_Model_clauseRead_J185 a M
def F_Model_clauseRead_J98 (a : Nat) (v2 : Int32) (M : z_Mem) : Option (z_Mem) :=
  zb (F_Model_isGood a M) fun x29 =>
  if x29 = 0 then
    F_Model_clauseRead_J112 a M
  else
    if z_inb 2 581 then
    zl (z_wI M (a + 2) (2 : Int32).toNatClampNeg v2) fun M30 =>
    F_Model_clauseRead_J112 a M30
    else none
def F_Model_clauseRead_J41 (a : Nat) (M : z_Mem) : Option (z_Mem) :=
  zb2 (F_Model_passes a 395046 M) fun x32 M31 =>
  if x32 = 0 then
    F_Model_clauseRead_J185 a M31
  else
    zb (F_Model_taxiRead a M31) fun M33 =>
    F_Model_clauseRead_J185 a M33
def F_Model_clauseRead (a : Nat) (M : z_Mem) : Option (z_Mem) :=
  zb2 (F_Model_passes a 365260 M) fun x2 M1 =>
  if x2 = 0 then
    zb (F_Model_isWord a 395046 M1) fun x3 =>
    if x3 = 0 then
      zb2 (F_Model_passes a 287870604 M1) fun x5 M4 =>
      if x5 = 0 then
        zb2 (F_Model_passes a 45602731721 M4) fun x7 M6 =>
        if x7 = 0 then
          zb2 (F_Model_passes a 369932 M6) fun x9 M8 =>
          if x9 = 0 then
            zb2 (F_Model_wrongs a 1 M8) fun x11 M10 =>
            F_Model_clauseRead_J185 a M10
          else
            zb (F_Model_ruleRead a M8) fun M12 =>
            F_Model_clauseRead_J185 a M12
        else
          zb2 (F_Model_number a 2 4 M6) fun x14 M13 =>
          zb2 (F_Model_number a 0 90 M13) fun x16 M15 =>
          zb (F_Model_isGood a M15) fun x17 =>
          if x17 = 0 then
            F_Model_clauseRead_J159 a M15
          else
            if z_inb ((10 + x14) - 2) 581 then
            zl (z_wI M15 (a + 2) ((10 + x14) - 2).toNatClampNeg x16) fun M18 =>
            F_Model_clauseRead_J159 a M18
            else none
      else
        zb2 (F_Model_number a 0 9999 M4) fun x20 M19 =>
        zb2 (F_Model_number a 0 999 M19) fun x22 M21 =>
        zb (F_Model_isGood a M21) fun x23 =>
        if x23 = 0 then
          F_Model_clauseRead_J98 a x22 M21
        else
          zl (z_wI M21 a 10 x20) fun M24 =>
          F_Model_clauseRead_J98 a x22 M24
    else
      if (M1.1 a 9) = 4 then
        zb2 (F_Model_wrongs a 3 M1) fun x26 M25 =>
        F_Model_clauseRead_J41 a M25
      else
        F_Model_clauseRead_J41 a M1
  else
    zb (F_Model_roadRead a M1) fun M27 =>
    F_Model_clauseRead_J185 a M27
def F_Model_load_J85 (a : Nat) (M : z_Mem) : Option (Int32 × z_Mem) :=
  zb (F_Model_isGood a M) fun x16 =>
  if x16 = 0 then
    some (((-10) - (M.1 a 30)), M)
  else
    zb (F_Model_becomes a M) fun M17 =>
    some ((M17.1 a 17), M17)
def F_Model_load_B64 (a : Nat) (rec64 : z_Mem → Option (Int32 × z_Mem)) (M : z_Mem) : Option (Int32 × z_Mem) :=
  zb (F_Model_isGood a M) fun x14 =>
  if x14 = 0 then
    F_Model_load_J85 a M
  else
    if (M.1 a 27) = 0 then
      F_Model_load_J85 a M
    else
      zb (F_Model_clauseRead a M) fun M15 =>
      rec64 M15
def F_Model_load_L64 (a : Nat) : Nat → z_Mem → Option (Int32 × z_Mem)
  | 0, _ => none
  | n9 + 1, M => F_Model_load_B64 a (F_Model_load_L64 a n9) M
def F_Model_load_J47 (a : Nat) (M : z_Mem) : Option (Int32 × z_Mem) :=
  zb2 (F_Model_number a 2 8 M) fun x11 M10 =>
  zb (F_Model_begins a x11 M10) fun M12 =>
  zb (F_Model_must a 59 M12) fun M13 =>
  F_Model_load_L64 a 10000 M13
def F_Model_load (a : Nat) (p0 : Int32) (M : z_Mem) : Option (Int32 × z_Mem) :=
  zl (z_wI M a 0 0) fun M1 =>
  zb (F_Model_in p0.toInt64 0 ((M1.1 a 23).toInt64) M1) fun x2 =>
  zb2 (F_Model_fails a x2 1 M1) fun x4 M3 =>
  if x4 = 0 then
    zb (F_Model_starts a p0 M3) fun M5 =>
    zb2 (F_Model_passes a 14123071 M5) fun x7 M6 =>
    if x7 = 0 then
      zb2 (F_Model_wrongs a 1 M6) fun x9 M8 =>
      F_Model_load_J47 a M8
    else
      F_Model_load_J47 a M6
  else
    some (0, M3)
def F_Model_lists_B13 (a : Nat) (rec13 : Int32 → Int32 → z_Mem → Option (z_Mem)) (v1 : Int32) (v2 : Int32) (M : z_Mem) : Option (z_Mem) :=
  if (M.1 a 39) ≤ v2 then
    some M
  else
    zb (F_Model_in2 a v1 (12 + v2) M) fun x3 =>
    if z_inb v2 14 then
    zl (z_wI M (a + 13) v2.toNatClampNeg x3) fun M4 =>
    zl (v2 + 1) fun x5 =>
    rec13 v1 x5 M4
    else none
def F_Model_lists_L13 (a : Nat) : Nat → Int32 → Int32 → z_Mem → Option (z_Mem)
  | 0, _, _, _ => none
  | n9 + 1, v1, v2, M => F_Model_lists_B13 a (F_Model_lists_L13 a n9) v1 v2 M
def F_Model_lists (a : Nat) (p0 : Int32) (M : z_Mem) : Option (z_Mem) :=
  zb (F_Model_in2 a p0 11 M) fun x1 =>
  zl (z_wI M a 39 x1) fun M2 =>
  F_Model_lists_L13 a 10000 p0 0 M2
def F_Model_zoneOf_J16 (a : Nat) (s0 : Int32) (s1 : Int32) (M : z_Mem) : Option (Int32) :=
  zb (F_Model_of a s1 s0 M) fun x1 =>
  some (x1)
def F_Model_zoneOf (a : Nat) (p0 : Int32) (M : z_Mem) : Option (Int32) :=
  if (p0 &&& 1) = 1 then
    F_Model_zoneOf_J16 a 1 (p0 / 2) M
  else
    F_Model_zoneOf_J16 a 2 (p0 / 2) M
def F_Model_minutesOf (a : Nat) (p0 : Int32) (p1 : Int32) (M : z_Mem) : Option (Int32) :=
  if z_inb ((8 * p0) + p1) 64 then
  some ((M.1 (a + 9) ((8 * p0) + p1).toNatClampNeg))
  else none
def F_Model_directOf (a : Nat) (p0 : Int32) (M : z_Mem) : Option (Int32) :=
  zb (F_Model_of a p0 1 M) fun x1 =>
  zb (F_Model_of a p0 2 M) fun x2 =>
  zb (F_Model_minutesOf a x1 x2 M) fun x3 =>
  some (x3)
def F_Model_mostOf (a : Nat) (p0 : Int32) (M : z_Mem) : Option (Int32) :=
  zb (F_Model_directOf a p0 M) fun x1 =>
  if x1 = (-1) then
    some ((-1))
  else
    zb (F_Model_of a p0 6 M) fun x2 =>
    some (((x1 * (100 + x2)) / 100))
def F_Model_personsAboard_B4 (a : Nat) (rec4 : Int32 → Int32 → Int32 → z_Mem → Option (Int32)) (v1 : Int32) (v2 : Int32) (v3 : Int32) (M : z_Mem) : Option (Int32) :=
  zb (F_Model_in2 a v1 24 M) fun x1 =>
  if x1 ≤ v3 then
    some (v2)
  else
    zb (F_Model_in2 a v1 (25 + v3) M) fun x2 =>
    zb (F_Model_of a x2 3 M) fun x3 =>
    zl ((v2 + x3)) fun x4 =>
    zl (v3 + 1) fun x5 =>
    rec4 v1 x4 x5 M
def F_Model_personsAboard_L4 (a : Nat) : Nat → Int32 → Int32 → Int32 → z_Mem → Option (Int32)
  | 0, _, _, _, _ => none
  | n9 + 1, v1, v2, v3, M => F_Model_personsAboard_B4 a (F_Model_personsAboard_L4 a n9) v1 v2 v3 M
def F_Model_personsAboard (a : Nat) (p0 : Int32) (M : z_Mem) : Option (Int32) :=
  F_Model_personsAboard_L4 a 10000 p0 0 0 M
def F_Model_sumOfWays_B12 (a : Nat) (rec12 : Int32 → Int32 → Int32 → z_Mem → Option (Int32)) (v2 : Int32) (v3 : Int32) (v4 : Int32) (M : z_Mem) : Option (Int32) :=
  if (M.1 a 39) ≤ v4 then
    some (v2)
  else
    if z_inb v4 14 then
    zb (F_Model_zoneOf a (M.1 (a + 13) v4.toNatClampNeg) M) fun x2 =>
    zb (F_Model_minutesOf a v3 x2 M) fun x3 =>
    if x3 = (-1) then
      some ((-1))
    else
      zl ((v2 + x3)) fun x4 =>
      if z_inb v4 14 then
      zb (F_Model_zoneOf a (M.1 (a + 13) v4.toNatClampNeg) M) fun x5 =>
      zl (v4 + 1) fun x6 =>
      rec12 x4 x5 x6 M
      else none
    else none
def F_Model_sumOfWays_L12 (a : Nat) : Nat → Int32 → Int32 → Int32 → z_Mem → Option (Int32)
  | 0, _, _, _, _ => none
  | n9 + 1, v2, v3, v4, M => F_Model_sumOfWays_B12 a (F_Model_sumOfWays_L12 a n9) v2 v3 v4 M
def F_Model_sumOfWays (a : Nat) (p0 : Int32) (M : z_Mem) : Option (Int32) :=
  zb (F_Model_in2 a p0 0 M) fun x1 =>
  F_Model_sumOfWays_L12 a 10000 0 x1 0 M
def F_Model_plans_J517 (a : Nat) (M : z_Mem) : Option (Int32 × z_Mem) :=
  some (1, M)
def F_Model_plans_J459 (a : Nat) (rec35 : Int32 → Int32 → Int32 → Int32 → Int32 → Int32 → Int32 → z_Mem → Option (Int32 × z_Mem)) (v1 : Int32) (v4 : Int32) (v5 : Int32) (v6 : Int32) (v7 : Int32) (M : z_Mem) : Option (Int32 × z_Mem) :=
  if z_inb v7 14 then
  zl ((M.1 (a + 16) v7.toNatClampNeg)) fun x29 =>
  if z_inb v7 14 then
  zb (F_Model_zoneOf a (M.1 (a + 13) v7.toNatClampNeg) M) fun x30 =>
  zl (v7 + 1) fun x31 =>
  rec35 v1 x30 x29 v4 v5 v6 x31 M
  else none
  else none
def F_Model_plans_J445 (a : Nat) (rec35 : Int32 → Int32 → Int32 → Int32 → Int32 → Int32 → Int32 → z_Mem → Option (Int32 × z_Mem)) (v1 : Int32) (v4 : Int32) (v5 : Int32) (v7 : Int32) (v8 : Int32) (s0 : Int32) (M : z_Mem) : Option (Int32 × z_Mem) :=
  zb (F_Model_of a v8 3 M) fun x27 =>
  zl ((v5 - x27)) fun x28 =>
  F_Model_plans_J459 a rec35 v1 v4 x28 s0 v7 M
def F_Model_plans_J444 (a : Nat) (rec35 : Int32 → Int32 → Int32 → Int32 → Int32 → Int32 → Int32 → z_Mem → Option (Int32 × z_Mem)) (v1 : Int32) (v4 : Int32) (v5 : Int32) (v7 : Int32) (v8 : Int32) (M : z_Mem) : Option (Int32 × z_Mem) :=
  F_Model_plans_J445 a rec35 v1 v4 v5 v7 v8 0 M
def F_Model_plans_J414 (a : Nat) (rec35 : Int32 → Int32 → Int32 → Int32 → Int32 → Int32 → Int32 → z_Mem → Option (Int32 × z_Mem)) (v1 : Int32) (v4 : Int32) (v5 : Int32) (v6 : Int32) (v7 : Int32) (v8 : Int32) (s0 : Int32) (M : z_Mem) : Option (Int32 × z_Mem) :=
  if v6 = 0 then
    F_Model_plans_J444 a rec35 v1 v4 v5 v7 v8 M
  else
    if z_inb v7 14 then
    zb (F_Model_mostOf a v8 M) fun x26 =>
    if (s0 + x26) < (M.1 (a + 15) v7.toNatClampNeg) then
      F_Model_plans_J444 a rec35 v1 v4 v5 v7 v8 M
    else
      F_Model_plans_J445 a rec35 v1 v4 v5 v7 v8 1 M
    else none
def F_Model_plans_J379 (a : Nat) (rec35 : Int32 → Int32 → Int32 → Int32 → Int32 → Int32 → Int32 → z_Mem → Option (Int32 × z_Mem)) (v1 : Int32) (v4 : Int32) (v6 : Int32) (v7 : Int32) (s0 : Int32) (s1 : Int32) (M : z_Mem) : Option (Int32 × z_Mem) :=
  zl ((s1 + s0)) fun x34 =>
  F_Model_plans_J459 a rec35 v1 v4 x34 v6 v7 M
def F_Model_plans_J345 (a : Nat) (rec35 : Int32 → Int32 → Int32 → Int32 → Int32 → Int32 → Int32 → z_Mem → Option (Int32 × z_Mem)) (v1 : Int32) (v4 : Int32) (v5 : Int32) (v7 : Int32) (v8 : Int32) (v12 : Int32) (s0 : Int32) (M : z_Mem) : Option (Int32 × z_Mem) :=
  if z_inb v7 14 then
  if z_inb v8 24 then
  zl (z_wI M (a + 19) v8.toNatClampNeg (M.1 (a + 16) v7.toNatClampNeg)) fun M32 =>
  if v12 = 0 then
    zb (F_Model_of a v8 3 M32) fun x33 =>
    F_Model_plans_J379 a rec35 v1 v4 s0 v7 x33 v5 M32
  else
    F_Model_plans_J379 a rec35 v1 v4 s0 v7 0 v5 M32
  else none
  else none
def F_Model_plans_J344 (a : Nat) (rec35 : Int32 → Int32 → Int32 → Int32 → Int32 → Int32 → Int32 → z_Mem → Option (Int32 × z_Mem)) (v1 : Int32) (v4 : Int32) (v5 : Int32) (v7 : Int32) (v8 : Int32) (v12 : Int32) (M : z_Mem) : Option (Int32 × z_Mem) :=
  F_Model_plans_J345 a rec35 v1 v4 v5 v7 v8 v12 0 M
def F_Model_plans_J311 (a : Nat) (rec35 : Int32 → Int32 → Int32 → Int32 → Int32 → Int32 → Int32 → z_Mem → Option (Int32 × z_Mem)) (v1 : Int32) (v4 : Int32) (v5 : Int32) (v7 : Int32) (v8 : Int32) (v9 : Int32) (v12 : Int32) (s0 : Int32) (M : z_Mem) : Option (Int32 × z_Mem) :=
  if v9 = 0 then
    zb (F_Model_of a v8 0 M) fun x23 =>
    if x23 = 2 then
      zb (F_Model_of a v8 8 M) fun x24 =>
      F_Model_plans_J414 a rec35 v1 v4 v5 s0 v7 v8 x24 M
    else
      if z_inb v8 24 then
      F_Model_plans_J414 a rec35 v1 v4 v5 s0 v7 v8 (M.1 (a + 19) v8.toNatClampNeg) M
      else none
  else
    if s0 = 0 then
      F_Model_plans_J344 a rec35 v1 v4 v5 v7 v8 v12 M
    else
      if z_inb v7 14 then
      zb (F_Model_of a v8 5 M) fun x25 =>
      if x25 < (M.1 (a + 15) v7.toNatClampNeg) then
        F_Model_plans_J344 a rec35 v1 v4 v5 v7 v8 v12 M
      else
        F_Model_plans_J345 a rec35 v1 v4 v5 v7 v8 v12 1 M
      else none
def F_Model_plans_J310 (a : Nat) (rec35 : Int32 → Int32 → Int32 → Int32 → Int32 → Int32 → Int32 → z_Mem → Option (Int32 × z_Mem)) (v1 : Int32) (v4 : Int32) (v5 : Int32) (v7 : Int32) (v8 : Int32) (v9 : Int32) (v12 : Int32) (M : z_Mem) : Option (Int32 × z_Mem) :=
  F_Model_plans_J311 a rec35 v1 v4 v5 v7 v8 v9 v12 0 M
def F_Model_plans_J257 (a : Nat) (rec35 : Int32 → Int32 → Int32 → Int32 → Int32 → Int32 → Int32 → z_Mem → Option (Int32 × z_Mem)) (v1 : Int32) (v4 : Int32) (v5 : Int32) (v6 : Int32) (v7 : Int32) (v8 : Int32) (v9 : Int32) (v10 : Int32) (v12 : Int32) (s0 : Int32) (s2 : Int32) (s3 : Int32) (M : z_Mem) : Option (Int32 × z_Mem) :=
  zb (F_Model_ruled a s0 M) fun x18 =>
  if z_inb s3 14 then
  zl (z_wI M (a + 16) s3.toNatClampNeg (s2 + x18)) fun M19 =>
  if z_inb v7 14 then
  zl (z_wI M19 (a + 17) v7.toNatClampNeg v4) fun M20 =>
  if z_inb v7 14 then
  zl (z_wI M20 (a + 18) v7.toNatClampNeg v10) fun M21 =>
  if v6 = 0 then
    F_Model_plans_J310 a rec35 v1 v4 v5 v7 v8 v9 v12 M21
  else
    if z_inb v1 4 then
    if (M21.1 (a + 10) v1.toNatClampNeg) < v5 then
      F_Model_plans_J310 a rec35 v1 v4 v5 v7 v8 v9 v12 M21
    else
      zb (F_Model_ruled a 5 M21) fun x22 =>
      if x22 < v4 then
        F_Model_plans_J310 a rec35 v1 v4 v5 v7 v8 v9 v12 M21
      else
        F_Model_plans_J311 a rec35 v1 v4 v5 v7 v8 v9 v12 1 M21
    else none
  else none
  else none
  else none
def F_Model_plans_J210 (a : Nat) (rec35 : Int32 → Int32 → Int32 → Int32 → Int32 → Int32 → Int32 → z_Mem → Option (Int32 × z_Mem)) (v1 : Int32) (v4 : Int32) (v5 : Int32) (v6 : Int32) (v7 : Int32) (v8 : Int32) (v9 : Int32) (v10 : Int32) (v11 : Int32) (s0 : Int32) (M : z_Mem) : Option (Int32 × z_Mem) :=
  if z_inb v7 14 then
  zl (z_wI M (a + 14) v7.toNatClampNeg v11) fun M16 =>
  if z_inb v7 14 then
  zl (z_wI M16 (a + 15) v7.toNatClampNeg (v11 + v10)) fun M17 =>
  if z_inb v7 14 then
  if s0 = 0 then
    F_Model_plans_J257 a rec35 v1 v4 v5 v6 v7 v8 v9 v10 s0 1 (M17.1 (a + 15) v7.toNatClampNeg) v7 M17
  else
    F_Model_plans_J257 a rec35 v1 v4 v5 v6 v7 v8 v9 v10 s0 3 (M17.1 (a + 15) v7.toNatClampNeg) v7 M17
  else none
  else none
  else none
def F_Model_plans_J209 (a : Nat) (rec35 : Int32 → Int32 → Int32 → Int32 → Int32 → Int32 → Int32 → z_Mem → Option (Int32 × z_Mem)) (v1 : Int32) (v4 : Int32) (v5 : Int32) (v6 : Int32) (v7 : Int32) (v8 : Int32) (v9 : Int32) (v10 : Int32) (v11 : Int32) (M : z_Mem) : Option (Int32 × z_Mem) :=
  F_Model_plans_J210 a rec35 v1 v4 v5 v6 v7 v8 v9 v10 v11 0 M
def F_Model_plans_J186 (a : Nat) (rec35 : Int32 → Int32 → Int32 → Int32 → Int32 → Int32 → Int32 → z_Mem → Option (Int32 × z_Mem)) (v1 : Int32) (v5 : Int32) (v6 : Int32) (v7 : Int32) (v8 : Int32) (v9 : Int32) (v10 : Int32) (v11 : Int32) (s0 : Int32) (M : z_Mem) : Option (Int32 × z_Mem) :=
  if v9 = 0 then
    F_Model_plans_J209 a rec35 v1 s0 v5 v6 v7 v8 v9 v10 v11 M
  else
    zb (F_Model_of a v8 11 M) fun x15 =>
    if x15 = 1 then
      F_Model_plans_J210 a rec35 v1 s0 v5 v6 v7 v8 v9 v10 v11 1 M
    else
      F_Model_plans_J209 a rec35 v1 s0 v5 v6 v7 v8 v9 v10 v11 M
def F_Model_plans_J163 (a : Nat) (rec35 : Int32 → Int32 → Int32 → Int32 → Int32 → Int32 → Int32 → z_Mem → Option (Int32 × z_Mem)) (v1 : Int32) (v3 : Int32) (v4 : Int32) (v5 : Int32) (v6 : Int32) (v7 : Int32) (v8 : Int32) (v9 : Int32) (v10 : Int32) (v11 : Int32) (M : z_Mem) : Option (Int32 × z_Mem) :=
  zb (F_Model_ruled a 6 M) fun x14 =>
  if (v11 - v3) < x14 then
    F_Model_plans_J186 a rec35 v1 v5 v6 v7 v8 v9 v10 v11 (v4 + v10) M
  else
    F_Model_plans_J186 a rec35 v1 v5 v6 v7 v8 v9 v10 v11 v10 M
def F_Model_plans_J161 (a : Nat) (rec35 : Int32 → Int32 → Int32 → Int32 → Int32 → Int32 → Int32 → z_Mem → Option (Int32 × z_Mem)) (v1 : Int32) (v3 : Int32) (v4 : Int32) (v5 : Int32) (v6 : Int32) (v7 : Int32) (v8 : Int32) (v9 : Int32) (v10 : Int32) (s0 : Int32) (M : z_Mem) : Option (Int32 × z_Mem) :=
  F_Model_plans_J163 a rec35 v1 v3 v4 v5 v6 v7 v8 v9 v10 s0 M
def F_Model_plans_J124 (a : Nat) (rec35 : Int32 → Int32 → Int32 → Int32 → Int32 → Int32 → Int32 → z_Mem → Option (Int32 × z_Mem)) (v1 : Int32) (v3 : Int32) (v4 : Int32) (v5 : Int32) (v6 : Int32) (v7 : Int32) (v8 : Int32) (v9 : Int32) (v10 : Int32) (s0 : Int32) (M : z_Mem) : Option (Int32 × z_Mem) :=
  if v7 = 0 then
    zb (F_Model_in2 a v1 3 M) fun x11 =>
    if x11 = (-1) then
      if z_inb 0 581 then
      zb (F_Model_greater s0 (M.1 (a + 1) (0 : Int32).toNatClampNeg) M) fun x13 =>
      F_Model_plans_J161 a rec35 v1 v3 v4 v5 v6 v7 v8 v9 v10 x13 M
      else none
    else
      zb (F_Model_in2 a v1 3 M) fun x12 =>
      F_Model_plans_J161 a rec35 v1 v3 v4 v5 v6 v7 v8 v9 v10 x12 M
  else
    F_Model_plans_J163 a rec35 v1 v3 v4 v5 v6 v7 v8 v9 v10 s0 M
def F_Model_plans_J73 (a : Nat) (rec35 : Int32 → Int32 → Int32 → Int32 → Int32 → Int32 → Int32 → z_Mem → Option (Int32 × z_Mem)) (v1 : Int32) (v2 : Int32) (v3 : Int32) (v4 : Int32) (v5 : Int32) (v6 : Int32) (v7 : Int32) (v8 : Int32) (s0 : Int32) (M : z_Mem) : Option (Int32 × z_Mem) :=
  if z_inb v7 14 then
  zb (F_Model_zoneOf a (M.1 (a + 13) v7.toNatClampNeg) M) fun x7 =>
  zb (F_Model_minutesOf a v2 x7 M) fun x8 =>
  if x8 = (-1) then
    some (0, M)
  else
    if s0 = 0 then
      F_Model_plans_J124 a rec35 v1 v3 v4 v5 v6 v7 v8 s0 x8 v3 M
    else
      zb (F_Model_of a v8 4 M) fun x9 =>
      zb (F_Model_greater v3 (x9 - x8) M) fun x10 =>
      F_Model_plans_J124 a rec35 v1 v3 v4 v5 v6 v7 v8 s0 x8 x10 M
  else none
def F_Model_plans_B35 (a : Nat) (rec35 : Int32 → Int32 → Int32 → Int32 → Int32 → Int32 → Int32 → z_Mem → Option (Int32 × z_Mem)) (v1 : Int32) (v2 : Int32) (v3 : Int32) (v4 : Int32) (v5 : Int32) (v6 : Int32) (v7 : Int32) (M : z_Mem) : Option (Int32 × z_Mem) :=
  if (M.1 a 39) ≤ v7 then
    if v6 = 0 then
      some (0, M)
    else
      if (M.1 a 39) = 0 then
        F_Model_plans_J517 a M
      else
        if z_inb ((M.1 a 39) - 1) 14 then
        zb (F_Model_in2 a v1 4 M) fun x5 =>
        if x5 < (M.1 (a + 16) ((M.1 a 39) - 1).toNatClampNeg) then
          some (0, M)
        else
          F_Model_plans_J517 a M
        else none
  else
    if z_inb v7 14 then
    zl (((M.1 (a + 13) v7.toNatClampNeg) / 2)) fun x6 =>
    if z_inb v7 14 then
    if ((M.1 (a + 13) v7.toNatClampNeg) &&& 1) = 1 then
      F_Model_plans_J73 a rec35 v1 v2 v3 v4 v5 v6 v7 x6 1 M
    else
      F_Model_plans_J73 a rec35 v1 v2 v3 v4 v5 v6 v7 x6 0 M
    else none
    else none
def F_Model_plans_L35 (a : Nat) : Nat → Int32 → Int32 → Int32 → Int32 → Int32 → Int32 → Int32 → z_Mem → Option (Int32 × z_Mem)
  | 0, _, _, _, _, _, _, _, _ => none
  | n9 + 1, v1, v2, v3, v4, v5, v6, v7, M => F_Model_plans_B35 a (F_Model_plans_L35 a n9) v1 v2 v3 v4 v5 v6 v7 M
def F_Model_plans (a : Nat) (p0 : Int32) (M : z_Mem) : Option (Int32 × z_Mem) :=
  zb (F_Model_in2 a p0 0 M) fun x1 =>
  zb (F_Model_in2 a p0 1 M) fun x2 =>
  zb (F_Model_in2 a p0 2 M) fun x3 =>
  zb (F_Model_personsAboard a p0 M) fun x4 =>
  F_Model_plans_L35 a 10000 p0 x1 x2 x3 x4 1 0 M
def F_Model_insertsAt_B23 (a : Nat) (rec23 : Int32 → Int32 → Int32 → Int32 → Int32 → Int32 → z_Mem → Option (z_Mem)) (v1 : Int32) (v2 : Int32) (v3 : Int32) (v4 : Int32) (v6 : Int32) (v7 : Int32) (M : z_Mem) : Option (z_Mem) :=
  if (M.1 a 39) ≤ v7 then
    some M
  else
    if v7 = v3 then
      if z_inb v7 14 then
      zl (z_wI M (a + 13) v7.toNatClampNeg ((2 * v2) + 1)) fun M9 =>
      zl (v7 + 1) fun x10 =>
      rec23 v1 v2 v3 v4 v6 x10 M9
      else none
    else
      if v7 = v4 then
        if z_inb v7 14 then
        zl (z_wI M (a + 13) v7.toNatClampNeg (2 * v2)) fun M7 =>
        zl (v7 + 1) fun x8 =>
        rec23 v1 v2 v3 v4 v6 x8 M7
        else none
      else
        zb (F_Model_in2 a v1 (12 + v6) M) fun x3 =>
        if z_inb v7 14 then
        zl (z_wI M (a + 13) v7.toNatClampNeg x3) fun M4 =>
        zl (v6 + 1) fun x5 =>
        zl (v7 + 1) fun x6 =>
        rec23 v1 v2 v3 v4 x5 x6 M4
        else none
def F_Model_insertsAt_L23 (a : Nat) : Nat → Int32 → Int32 → Int32 → Int32 → Int32 → Int32 → z_Mem → Option (z_Mem)
  | 0, _, _, _, _, _, _, _ => none
  | n9 + 1, v1, v2, v3, v4, v6, v7, M => F_Model_insertsAt_B23 a (F_Model_insertsAt_L23 a n9) v1 v2 v3 v4 v6 v7 M
def F_Model_insertsAt (a : Nat) (p0 : Int32) (p1 : Int32) (p2 : Int32) (p3 : Int32) (M : z_Mem) : Option (z_Mem) :=
  zb (F_Model_in2 a p0 11 M) fun x1 =>
  zl (z_wI M a 39 (x1 + 2)) fun M2 =>
  F_Model_insertsAt_L23 a 10000 p0 p1 p2 p3 0 0 M2
def F_Model_findsBest_J146 (a : Nat) (rec52 : Int32 → Int32 → Int32 → Int32 → Int32 → z_Mem → Option (Int32 × z_Mem)) (rec64 : Int32 → Int32 → Int32 → Int32 → Int32 → Int32 → z_Mem → Option (Int32 × z_Mem)) (v1 : Int32) (v2 : Int32) (v3 : Int32) (v4 : Int32) (v5 : Int32) (v6 : Int32) (v7 : Int32) (M : z_Mem) : Option (Int32 × z_Mem) :=
  zl (z_wI M a 40 v7) fun M16 =>
  if z_inb v5 14 then
  zl (z_wI M16 a 41 (M16.1 (a + 15) v5.toNatClampNeg)) fun M17 =>
  if z_inb v6 14 then
  zl (z_wI M17 a 42 (M17.1 (a + 15) v6.toNatClampNeg)) fun M18 =>
  zl (z_wI M18 a 43 v5) fun M19 =>
  zl (z_wI M19 a 44 v6) fun M20 =>
  zl (v6 + 1) fun x21 =>
  rec64 v1 v2 v3 v4 v5 x21 M20
  else none
  else none
def F_Model_findsBest_B64 (a : Nat) (rec52 : Int32 → Int32 → Int32 → Int32 → Int32 → z_Mem → Option (Int32 × z_Mem)) (rec64 : Int32 → Int32 → Int32 → Int32 → Int32 → Int32 → z_Mem → Option (Int32 × z_Mem)) (v1 : Int32) (v2 : Int32) (v3 : Int32) (v4 : Int32) (v5 : Int32) (v6 : Int32) (M : z_Mem) : Option (Int32 × z_Mem) :=
  if (v3 + 1) < v6 then
    zl (v5 + 1) fun x7 =>
    rec52 v1 v2 v3 v4 x7 M
  else
    zb (F_Model_insertsAt a v1 v2 v5 v6 M) fun M8 =>
    zb2 (F_Model_plans a v1 M8) fun x10 M9 =>
    if x10 = 0 then
      zl (v6 + 1) fun x15 =>
      rec64 v1 v2 v3 v4 v5 x15 M9
    else
      zb (F_Model_sumOfWays a v1 M9) fun x11 =>
      zl ((x11 - v4)) fun x12 =>
      if (M9.1 a 40) = (-1) then
        F_Model_findsBest_J146 a rec52 rec64 v1 v2 v3 v4 v5 v6 x12 M9
      else
        if (M9.1 a 40) < x12 then
          zl (v6 + 1) fun x13 =>
          rec64 v1 v2 v3 v4 v5 x13 M9
        else
          if x12 = (M9.1 a 40) then
            if z_inb v5 14 then
            if (M9.1 (a + 15) v5.toNatClampNeg) < (M9.1 a 41) then
              F_Model_findsBest_J146 a rec52 rec64 v1 v2 v3 v4 v5 v6 x12 M9
            else
              zl (v6 + 1) fun x14 =>
              rec64 v1 v2 v3 v4 v5 x14 M9
            else none
          else
            F_Model_findsBest_J146 a rec52 rec64 v1 v2 v3 v4 v5 v6 x12 M9
def F_Model_findsBest_L64 (a : Nat) (rec52 : Int32 → Int32 → Int32 → Int32 → Int32 → z_Mem → Option (Int32 × z_Mem)) : Nat → Int32 → Int32 → Int32 → Int32 → Int32 → Int32 → z_Mem → Option (Int32 × z_Mem)
  | 0, _, _, _, _, _, _, _ => none
  | n9 + 1, v1, v2, v3, v4, v5, v6, M => F_Model_findsBest_B64 a rec52 (F_Model_findsBest_L64 a rec52 n9) v1 v2 v3 v4 v5 v6 M
def F_Model_findsBest_B52 (a : Nat) (rec52 : Int32 → Int32 → Int32 → Int32 → Int32 → z_Mem → Option (Int32 × z_Mem)) (v1 : Int32) (v2 : Int32) (v3 : Int32) (v4 : Int32) (v5 : Int32) (M : z_Mem) : Option (Int32 × z_Mem) :=
  if v3 < v5 then
    if (M.1 a 40) = (-1) then
      some (0, M)
    else
      some (1, M)
  else
    zl ((v5 + 1)) fun x6 =>
    F_Model_findsBest_L64 a rec52 10000 v1 v2 v3 v4 v5 x6 M
def F_Model_findsBest_L52 (a : Nat) : Nat → Int32 → Int32 → Int32 → Int32 → Int32 → z_Mem → Option (Int32 × z_Mem)
  | 0, _, _, _, _, _, _ => none
  | n9 + 1, v1, v2, v3, v4, v5, M => F_Model_findsBest_B52 a (F_Model_findsBest_L52 a n9) v1 v2 v3 v4 v5 M
def F_Model_findsBest_J50 (a : Nat) (v1 : Int32) (v2 : Int32) (v3 : Int32) (v4 : Int32) (s0 : Int32) (M : z_Mem) : Option (Int32 × z_Mem) :=
  F_Model_findsBest_L52 a 10000 v1 v2 v3 v4 s0 M
def F_Model_findsBest (a : Nat) (p0 : Int32) (p1 : Int32) (M : z_Mem) : Option (Int32 × z_Mem) :=
  zl (z_wI M a 40 (-1)) fun M1 =>
  zb (F_Model_in2 a p0 11 M1) fun x2 =>
  if (x2 + 2) ≤ 12 then
    zb (F_Model_lists a p0 M1) fun M3 =>
    zb (F_Model_sumOfWays a p0 M3) fun x4 =>
    zb (F_Model_in2 a p0 3 M3) fun x5 =>
    if x5 = (-1) then
      F_Model_findsBest_J50 a p0 p1 x2 x4 0 M3
    else
      F_Model_findsBest_J50 a p0 p1 x2 x4 1 M3
  else
    some (0, M1)
def F_Model_puts_B2 (a : Nat) (rec2 : Int32 → Int32 → z_Mem → Option (z_Mem)) (v1 : Int32) (v2 : Int32) (M : z_Mem) : Option (z_Mem) :=
  if (M.1 a 39) ≤ v2 then
    zb (F_Model_lays2 a v1 11 (M.1 a 39) M) fun M1 =>
    some M1
  else
    if z_inb v2 14 then
    zb (F_Model_lays2 a v1 (12 + v2) (M.1 (a + 13) v2.toNatClampNeg) M) fun M2 =>
    zl (v2 + 1) fun x3 =>
    rec2 v1 x3 M2
    else none
def F_Model_puts_L2 (a : Nat) : Nat → Int32 → Int32 → z_Mem → Option (z_Mem)
  | 0, _, _, _ => none
  | n9 + 1, v1, v2, M => F_Model_puts_B2 a (F_Model_puts_L2 a n9) v1 v2 M
def F_Model_puts (a : Nat) (p0 : Int32) (M : z_Mem) : Option (z_Mem) :=
  F_Model_puts_L2 a 10000 p0 0 M
def F_Model_drops_B5 (a : Nat) (rec5 : Int32 → Int32 → Int32 → Int32 → z_Mem → Option (z_Mem)) (v1 : Int32) (v2 : Int32) (v3 : Int32) (v4 : Int32) (M : z_Mem) : Option (z_Mem) :=
  zb (F_Model_in2 a v1 11 M) fun x1 =>
  if x1 ≤ v4 then
    zb (F_Model_lays2 a v1 11 v3 M) fun M2 =>
    some M2
  else
    zb (F_Model_in2 a v1 (12 + v4) M) fun x3 =>
    if x3 = v2 then
      zl (v4 + 1) fun x7 =>
      rec5 v1 v2 v3 x7 M
    else
      zb (F_Model_lays2 a v1 (12 + v3) x3 M) fun M4 =>
      zl (v3 + 1) fun x5 =>
      zl (v4 + 1) fun x6 =>
      rec5 v1 v2 x5 x6 M4
def F_Model_drops_L5 (a : Nat) : Nat → Int32 → Int32 → Int32 → Int32 → z_Mem → Option (z_Mem)
  | 0, _, _, _, _, _ => none
  | n9 + 1, v1, v2, v3, v4, M => F_Model_drops_B5 a (F_Model_drops_L5 a n9) v1 v2 v3 v4 M
def F_Model_drops (a : Nat) (p0 : Int32) (p1 : Int32) (M : z_Mem) : Option (z_Mem) :=
  F_Model_drops_L5 a 10000 p0 p1 0 0 M
def F_Model_discountFor (a : Nat) (p0 : Int32) (M : z_Mem) : Option (Int32) :=
  if 2 ≤ p0 then
    zb (F_Model_lesser p0 4 M) fun x1 =>
    zb (F_Model_ruled a ((7 + x1) - 2) M) fun x2 =>
    some (x2)
  else
    some (0)
def F_Model_amountFor (a : Nat) (p0 : Int32) (p1 : Int32) (M : z_Mem) : Option (Int32) :=
  if z_inb 2 581 then
  zl ((p0 * (M.1 (a + 1) (2 : Int32).toNatClampNeg))) fun x1 =>
  zb (F_Model_discountFor a p1 M) fun x2 =>
  some ((x1 - ((x1 * x2) / 100)))
  else none
def F_Model_partOf_J15 (s0 : Int32) (s1 : Int32) (M : z_Mem) : Option (Int32) :=
  some ((s1 + s0))
def F_Model_partOf (p0 : Int32) (p1 : Int32) (p2 : Int32) (M : z_Mem) : Option (Int32) :=
  if ¬ p1 = 0 then
  if ¬ p1 = 0 then
  if (p0 - p0 / p1 * p1) ≤ p2 then
    F_Model_partOf_J15 0 (p0 / p1) M
  else
    F_Model_partOf_J15 1 (p0 / p1) M
  else none
  else none
def F_Model_pays_B70 (a : Nat) (rec70 : Int32 → Int32 → Int32 → Int32 → z_Mem → Option (z_Mem)) (v1 : Int32) (v3 : Int32) (v4 : Int32) (v5 : Int32) (M : z_Mem) : Option (z_Mem) :=
  if v3 ≤ v5 then
    some M
  else
    zb (F_Model_in2 a v1 (25 + v5) M) fun x8 =>
    zb (F_Model_of a x8 10 M) fun x9 =>
    zb (F_Model_partOf v4 v3 v5 M) fun x10 =>
    zb (F_Model_sets a x8 10 (x9 + x10) M) fun M11 =>
    zl (v5 + 1) fun x12 =>
    rec70 v1 v3 v4 x12 M11
def F_Model_pays_L70 (a : Nat) : Nat → Int32 → Int32 → Int32 → Int32 → z_Mem → Option (z_Mem)
  | 0, _, _, _, _, _ => none
  | n9 + 1, v1, v3, v4, v5, M => F_Model_pays_B70 a (F_Model_pays_L70 a n9) v1 v3 v4 v5 M
def F_Model_pays_J42 (a : Nat) (v1 : Int32) (v2 : Int32) (v3 : Int32) (M : z_Mem) : Option (z_Mem) :=
  zb (F_Model_amountFor a v2 v3 M) fun x5 =>
  zb (F_Model_grows a v1 10 x5 M) fun M6 =>
  zb (F_Model_grows a v1 5 x5 M6) fun M7 =>
  F_Model_pays_L70 a 10000 v1 v3 x5 0 M7
def F_Model_pays (a : Nat) (p0 : Int32) (p1 : Int32) (M : z_Mem) : Option (z_Mem) :=
  zb (F_Model_in2 a p0 24 M) fun x1 =>
  zb (F_Model_grows a p0 7 p1 M) fun M2 =>
  if x1 = 0 then
    some M2
  else
    zb (F_Model_grows a p0 8 p1 M2) fun M3 =>
    if x1 ≤ 1 then
      F_Model_pays_J42 a p0 p1 x1 M3
    else
      zb (F_Model_grows a p0 9 p1 M3) fun M4 =>
      F_Model_pays_J42 a p0 p1 x1 M4
def F_Model_charges (a : Nat) (p0 : Int32) (p1 : Int32) (p2 : Int32) (M : z_Mem) : Option (z_Mem) :=
  zb (F_Model_of a p1 10 M) fun x1 =>
  zb (F_Model_sets a p1 10 (x1 + p2) M) fun M2 =>
  zb (F_Model_grows a p0 5 p2 M2) fun M3 =>
  some M3
def F_Model_getsOff_B5 (a : Nat) (rec5 : Int32 → Int32 → Int32 → Int32 → z_Mem → Option (z_Mem)) (v1 : Int32) (v2 : Int32) (v3 : Int32) (v4 : Int32) (M : z_Mem) : Option (z_Mem) :=
  zb (F_Model_in2 a v1 24 M) fun x1 =>
  if x1 ≤ v4 then
    zb (F_Model_lays2 a v1 24 v3 M) fun M2 =>
    some M2
  else
    zb (F_Model_in2 a v1 (25 + v4) M) fun x3 =>
    if x3 = v2 then
      zl (v4 + 1) fun x7 =>
      rec5 v1 v2 v3 x7 M
    else
      zb (F_Model_lays2 a v1 (25 + v3) x3 M) fun M4 =>
      zl (v3 + 1) fun x5 =>
      zl (v4 + 1) fun x6 =>
      rec5 v1 v2 x5 x6 M4
def F_Model_getsOff_L5 (a : Nat) : Nat → Int32 → Int32 → Int32 → Int32 → z_Mem → Option (z_Mem)
  | 0, _, _, _, _, _ => none
  | n9 + 1, v1, v2, v3, v4, M => F_Model_getsOff_B5 a (F_Model_getsOff_L5 a n9) v1 v2 v3 v4 M
def F_Model_getsOff (a : Nat) (p0 : Int32) (p1 : Int32) (M : z_Mem) : Option (z_Mem) :=
  F_Model_getsOff_L5 a 10000 p0 p1 0 0 M
def F_Model_happens_J159 (a : Nat) (v1 : Int32) (v2 : Int32) (M : z_Mem) : Option (z_Mem) :=
  if z_inb v2 14 then
  zb (F_Model_zoneOf a (M.1 (a + 13) v2.toNatClampNeg) M) fun x17 =>
  zb (F_Model_lays2 a v1 0 x17 M) fun M18 =>
  if z_inb v2 14 then
  zb (F_Model_lays2 a v1 1 (M18.1 (a + 16) v2.toNatClampNeg) M18) fun M19 =>
  if z_inb v2 14 then
  zb (F_Model_lays2 a v1 2 (M19.1 (a + 17) v2.toNatClampNeg) M19) fun M20 =>
  some M20
  else none
  else none
  else none
def F_Model_happens (a : Nat) (p0 : Int32) (p1 : Int32) (M : z_Mem) : Option (z_Mem) :=
  if z_inb p1 14 then
  zl (((M.1 (a + 13) p1.toNatClampNeg) / 2)) fun x1 =>
  if z_inb p1 14 then
  zb (F_Model_pays a p0 (M.1 (a + 18) p1.toNatClampNeg) M) fun M2 =>
  if z_inb p1 14 then
  if ((M2.1 (a + 13) p1.toNatClampNeg) &&& 1) = 0 then
    zb (F_Model_getsOff a p0 x1 M2) fun M14 =>
    zb (F_Model_sets a x1 0 3 M14) fun M15 =>
    if z_inb p1 14 then
    zb (F_Model_sets a x1 9 (M15.1 (a + 15) p1.toNatClampNeg) M15) fun M16 =>
    F_Model_happens_J159 a p0 p1 M16
    else none
  else
    zb (F_Model_of a x1 11 M2) fun x3 =>
    if x3 = 1 then
      zb (F_Model_ruled a 4 M2) fun x10 =>
      zb (F_Model_charges a p0 x1 x10 M2) fun M11 =>
      zb (F_Model_sets a x1 0 5 M11) fun M12 =>
      if z_inb p1 14 then
      zb (F_Model_sets a x1 8 (M12.1 (a + 16) p1.toNatClampNeg) M12) fun M13 =>
      F_Model_happens_J159 a p0 p1 M13
      else none
    else
      zb (F_Model_charges a p0 x1 (M2.1 a 18) M2) fun M4 =>
      zb (F_Model_sets a x1 0 2 M4) fun M5 =>
      if z_inb p1 14 then
      zb (F_Model_sets a x1 8 (M5.1 (a + 16) p1.toNatClampNeg) M5) fun M6 =>
      zb (F_Model_in2 a p0 24 M6) fun x7 =>
      zb (F_Model_lays2 a p0 (25 + x7) x1 M6) fun M8 =>
      zb (F_Model_grows a p0 24 1 M8) fun M9 =>
      F_Model_happens_J159 a p0 p1 M9
      else none
  else none
  else none
  else none
def F_Model_goesOn_J153 (a : Nat) (v3 : Int32) (s0 : Int32) (s1 : Int32) (s2 : Int32) (M : z_Mem) : Option (Int32 × z_Mem) :=
  zb (F_Model_lays2 a s2 s1 s0 M) fun M4 =>
  some (v3, M4)
def F_Model_goesOn_J152 (a : Nat) (v3 : Int32) (s0 : Int32) (s1 : Int32) (M : z_Mem) : Option (Int32 × z_Mem) :=
  F_Model_goesOn_J153 a v3 (-1) s0 s1 M
def F_Model_goesOn_J123 (a : Nat) (v1 : Int32) (v2 : Int32) (v3 : Int32) (M : z_Mem) : Option (Int32 × z_Mem) :=
  if (M.1 a 39) ≤ 0 then
    F_Model_goesOn_J152 a v3 3 v1 M
  else
    if z_inb 0 14 then
    if v2 ≤ (M.1 (a + 14) (0 : Int32).toNatClampNeg) then
      F_Model_goesOn_J152 a v3 3 v1 M
    else
      if z_inb 0 14 then
      F_Model_goesOn_J153 a v3 (M.1 (a + 14) (0 : Int32).toNatClampNeg) 3 v1 M
      else none
    else none
def F_Model_goesOn_B63 (a : Nat) (rec5 : Int32 → Int32 → Int32 → Int32 → z_Mem → Option (Int32 × z_Mem)) (rec63 : Int32 → Int32 → Int32 → Int32 → Int32 → z_Mem → Option (Int32 × z_Mem)) (v1 : Int32) (v2 : Int32) (v3 : Int32) (v4 : Int32) (v6 : Int32) (M : z_Mem) : Option (Int32 × z_Mem) :=
  if (M.1 a 39) ≤ v6 then
    zb (F_Model_lays2 a v1 11 ((M.1 a 39) - 1) M) fun M6 =>
    zb (F_Model_lays2 a v1 3 (-1) M6) fun M7 =>
    zl (v3 + 1) fun x8 =>
    rec5 v1 v2 x8 v4 M7
  else
    if z_inb v6 14 then
    zb (F_Model_lays2 a v1 ((12 + v6) - 1) (M.1 (a + 13) v6.toNatClampNeg) M) fun M9 =>
    zl (v6 + 1) fun x10 =>
    rec63 v1 v2 v3 v4 x10 M9
    else none
def F_Model_goesOn_L63 (a : Nat) (rec5 : Int32 → Int32 → Int32 → Int32 → z_Mem → Option (Int32 × z_Mem)) : Nat → Int32 → Int32 → Int32 → Int32 → Int32 → z_Mem → Option (Int32 × z_Mem)
  | 0, _, _, _, _, _, _ => none
  | n9 + 1, v1, v2, v3, v4, v6, M => F_Model_goesOn_B63 a rec5 (F_Model_goesOn_L63 a rec5 n9) v1 v2 v3 v4 v6 M
def F_Model_goesOn_J44 (a : Nat) (rec5 : Int32 → Int32 → Int32 → Int32 → z_Mem → Option (Int32 × z_Mem)) (v1 : Int32) (v2 : Int32) (v3 : Int32) (s0 : Int32) (M : z_Mem) : Option (Int32 × z_Mem) :=
  if s0 = 0 then
    F_Model_goesOn_J123 a v1 v2 v3 M
  else
    zb (F_Model_happens a v1 0 M) fun M5 =>
    F_Model_goesOn_L63 a rec5 10000 v1 v2 v3 s0 1 M5
def F_Model_goesOn_J43 (a : Nat) (rec5 : Int32 → Int32 → Int32 → Int32 → z_Mem → Option (Int32 × z_Mem)) (v1 : Int32) (v2 : Int32) (v3 : Int32) (M : z_Mem) : Option (Int32 × z_Mem) :=
  F_Model_goesOn_J44 a rec5 v1 v2 v3 0 M
def F_Model_goesOn_B5 (a : Nat) (rec5 : Int32 → Int32 → Int32 → Int32 → z_Mem → Option (Int32 × z_Mem)) (v1 : Int32) (v2 : Int32) (v3 : Int32) (v4 : Int32) (M : z_Mem) : Option (Int32 × z_Mem) :=
  if v4 = 0 then
    F_Model_goesOn_J123 a v1 v2 v3 M
  else
    zb (F_Model_lists a v1 M) fun M1 =>
    zb2 (F_Model_plans a v1 M1) fun x3 M2 =>
    if (M2.1 a 39) ≤ 0 then
      F_Model_goesOn_J43 a rec5 v1 v2 v3 M2
    else
      if z_inb 0 14 then
      if v2 < (M2.1 (a + 16) (0 : Int32).toNatClampNeg) then
        F_Model_goesOn_J43 a rec5 v1 v2 v3 M2
      else
        F_Model_goesOn_J44 a rec5 v1 v2 v3 1 M2
      else none
def F_Model_goesOn_L5 (a : Nat) : Nat → Int32 → Int32 → Int32 → Int32 → z_Mem → Option (Int32 × z_Mem)
  | 0, _, _, _, _, _ => none
  | n9 + 1, v1, v2, v3, v4, M => F_Model_goesOn_B5 a (F_Model_goesOn_L5 a n9) v1 v2 v3 v4 M
def F_Model_goesOn (a : Nat) (p0 : Int32) (p1 : Int32) (M : z_Mem) : Option (Int32 × z_Mem) :=
  F_Model_goesOn_L5 a 10000 p0 p1 0 1 M
def F_Model_noZone (a : Nat) (p0 : Int32) (M : z_Mem) : Option (Int32 × z_Mem) :=
  zb (F_Model_in p0.toInt64 0 (((M.1 a 15) - 1).toInt64) M) fun x1 =>
  zb2 (F_Model_fails a x1 1 M) fun x3 M2 =>
  if x3 = 0 ∨ x3 = 1 then some (x3, M2) else none
def F_Model_noTaxi (a : Nat) (p0 : Int32) (M : z_Mem) : Option (Int32 × z_Mem) :=
  zb (F_Model_in p0.toInt64 0 (((M.1 a 17) - 1).toInt64) M) fun x1 =>
  zb2 (F_Model_fails a x1 1 M) fun x3 M2 =>
  if x3 = 0 ∨ x3 = 1 then some (x3, M2) else none
def F_Model_noRide (a : Nat) (p0 : Int32) (M : z_Mem) : Option (Int32 × z_Mem) :=
  if z_inb 1 581 then
  zb (F_Model_in p0.toInt64 0 (((M.1 (a + 1) (1 : Int32).toNatClampNeg) - 1).toInt64) M) fun x1 =>
  zb2 (F_Model_fails a x1 1 M) fun x3 M2 =>
  if x3 = 0 ∨ x3 = 1 then some (x3, M2) else none
  else none
def F_Model_ridesIn_J30 (a : Nat) (rec4 : Int32 → Int32 → Int32 → z_Mem → Option (Int32)) (v1 : Int32) (v3 : Int32) (s0 : Int32) (s1 : Int32) (M : z_Mem) : Option (Int32) :=
  zl ((s1 + s0)) fun x2 =>
  zl (v3 + 1) fun x3 =>
  rec4 v1 x2 x3 M
def F_Model_ridesIn_B4 (a : Nat) (rec4 : Int32 → Int32 → Int32 → z_Mem → Option (Int32)) (v1 : Int32) (v2 : Int32) (v3 : Int32) (M : z_Mem) : Option (Int32) :=
  if z_inb 1 581 then
  if (M.1 (a + 1) (1 : Int32).toNatClampNeg) ≤ v3 then
    some (v2)
  else
    zb (F_Model_of a v3 0 M) fun x1 =>
    if x1 = v1 then
      F_Model_ridesIn_J30 a rec4 v1 v3 1 v2 M
    else
      F_Model_ridesIn_J30 a rec4 v1 v3 0 v2 M
  else none
def F_Model_ridesIn_L4 (a : Nat) : Nat → Int32 → Int32 → Int32 → z_Mem → Option (Int32)
  | 0, _, _, _, _ => none
  | n9 + 1, v1, v2, v3, M => F_Model_ridesIn_B4 a (F_Model_ridesIn_L4 a n9) v1 v2 v3 M
def F_Model_ridesIn (a : Nat) (p0 : Int32) (M : z_Mem) : Option (Int32) :=
  F_Model_ridesIn_L4 a 10000 p0 0 0 M
def F_Model_sumOf_B4 (a : Nat) (rec4 : Int32 → Int32 → Int32 → z_Mem → Option (Int32)) (v1 : Int32) (v2 : Int32) (v3 : Int32) (M : z_Mem) : Option (Int32) :=
  if (M.1 a 17) ≤ v3 then
    some (v2)
  else
    zb (F_Model_in2 a v3 v1 M) fun x1 =>
    zl ((v2 + x1)) fun x2 =>
    zl (v3 + 1) fun x3 =>
    rec4 v1 x2 x3 M
def F_Model_sumOf_L4 (a : Nat) : Nat → Int32 → Int32 → Int32 → z_Mem → Option (Int32)
  | 0, _, _, _, _ => none
  | n9 + 1, v1, v2, v3, M => F_Model_sumOf_B4 a (F_Model_sumOf_L4 a n9) v1 v2 v3 M
def F_Model_sumOf (a : Nat) (p0 : Int32) (M : z_Mem) : Option (Int32) :=
  F_Model_sumOf_L4 a 10000 p0 0 0 M
def F_Model_size (a : Nat) (p0 : Int32) (M : z_Mem) : Option (Int32 × z_Mem) :=
  zl (z_wI M a 0 0) fun M1 =>
  zb (F_Model_in p0.toInt64 0 8 M1) fun x2 =>
  zb2 (F_Model_fails a x2 1 M1) fun x4 M3 =>
  if x4 = 0 then
    if p0 = 0 then
      some ((M3.1 a 15), M3)
    else
      if p0 = 1 then
        some ((M3.1 a 16), M3)
      else
        if p0 = 2 then
          some ((M3.1 a 17), M3)
        else
          if p0 = 3 then
            if z_inb 1 581 then
            some ((M3.1 (a + 1) (1 : Int32).toNatClampNeg), M3)
            else none
          else
            if p0 = 4 then
              if z_inb 0 581 then
              some ((M3.1 (a + 1) (0 : Int32).toNatClampNeg), M3)
              else none
            else
              if p0 = 5 then
                zb (F_Model_ridesIn a 0 M3) fun x6 =>
                some (x6, M3)
              else
                if p0 = 6 then
                  zb (F_Model_sumOf a 11 M3) fun x5 =>
                  some (x5, M3)
                else
                  if p0 = 7 then
                    some ((M3.1 a 18), M3)
                  else
                    if z_inb 2 581 then
                    some ((M3.1 (a + 1) (2 : Int32).toNatClampNeg), M3)
                    else none
  else
    some (0, M3)
def F_Model_rule (a : Nat) (p0 : Int32) (M : z_Mem) : Option (Int32 × z_Mem) :=
  zl (z_wI M a 0 0) fun M1 =>
  zb (F_Model_in p0.toInt64 0 9 M1) fun x2 =>
  zb2 (F_Model_fails a x2 1 M1) fun x4 M3 =>
  if x4 = 0 then
    zb (F_Model_ruled a p0 M3) fun x5 =>
    some (x5, M3)
  else
    some (0, M3)
def F_Model_minutes_J21 (a : Nat) (M : z_Mem) : Option (Int32 × z_Mem) :=
  some (0, M)
def F_Model_minutes (a : Nat) (p0 : Int32) (p1 : Int32) (M : z_Mem) : Option (Int32 × z_Mem) :=
  zl (z_wI M a 0 0) fun M1 =>
  zb2 (F_Model_noZone a p0 M1) fun x3 M2 =>
  if x3 = 0 then
    zb2 (F_Model_noZone a p1 M2) fun x5 M4 =>
    if x5 = 0 then
      zb (F_Model_minutesOf a p0 p1 M4) fun x6 =>
      some (x6, M4)
    else
      F_Model_minutes_J21 a M4
  else
    F_Model_minutes_J21 a M2
def F_Model_taxi (a : Nat) (p0 : Int32) (p1 : Int32) (M : z_Mem) : Option (Int32 × z_Mem) :=
  zl (z_wI M a 0 0) fun M1 =>
  zb2 (F_Model_noTaxi a p0 M1) fun x3 M2 =>
  if x3 = 0 then
    zb (F_Model_in p1.toInt64 0 9 M2) fun x4 =>
    zb2 (F_Model_fails a x4 1 M2) fun x6 M5 =>
    if x6 = 0 then
      if p1 = 0 then
        if z_inb p0 4 then
        some ((M5.1 (a + 10) p0.toNatClampNeg), M5)
        else none
      else
        if p1 = 1 then
          zb (F_Model_in2 a p0 0 M5) fun x14 =>
          some (x14, M5)
        else
          if p1 = 2 then
            zb (F_Model_in2 a p0 1 M5) fun x13 =>
            some (x13, M5)
          else
            if p1 = 3 then
              if z_inb p0 4 then
              some ((M5.1 (a + 11) p0.toNatClampNeg), M5)
              else none
            else
              if p1 = 4 then
                zb (F_Model_in2 a p0 4 M5) fun x12 =>
                some (x12, M5)
              else
                if p1 = 5 then
                  zb (F_Model_in2 a p0 11 M5) fun x11 =>
                  some (x11, M5)
                else
                  if p1 = 6 then
                    zb (F_Model_personsAboard a p0 M5) fun x10 =>
                    some (x10, M5)
                  else
                    if p1 = 7 then
                      zb (F_Model_in2 a p0 24 M5) fun x9 =>
                      some (x9, M5)
                    else
                      if p1 = 8 then
                        zb (F_Model_in2 a p0 2 M5) fun x8 =>
                        some (x8, M5)
                      else
                        zb (F_Model_in2 a p0 3 M5) fun x7 =>
                        some (x7, M5)
    else
      some (0, M5)
  else
    some (0, M2)
def F_Model_account_J30 (a : Nat) (M : z_Mem) : Option (Int32 × z_Mem) :=
  some (0, M)
def F_Model_account (a : Nat) (p0 : Int32) (p1 : Int32) (M : z_Mem) : Option (Int32 × z_Mem) :=
  zl (z_wI M a 0 0) fun M1 =>
  zb2 (F_Model_noTaxi a p0 M1) fun x3 M2 =>
  if x3 = 0 then
    zb (F_Model_in p1.toInt64 0 5 M2) fun x4 =>
    zb2 (F_Model_fails a x4 1 M2) fun x6 M5 =>
    if x6 = 0 then
      zb (F_Model_in2 a p0 (5 + p1) M5) fun x7 =>
      some (x7, M5)
    else
      F_Model_account_J30 a M5
  else
    F_Model_account_J30 a M2
def F_Model_stop_J50 (a : Nat) (v1 : Int32) (v2 : Int32) (v3 : Int32) (s0 : Int32) (M : z_Mem) : Option (Int32 × z_Mem) :=
  zb2 (F_Model_fails a s0 1 M) fun x8 M7 =>
  if x8 = 0 then
    zb (F_Model_lists a v1 M7) fun M9 =>
    zb2 (F_Model_plans a v1 M9) fun x11 M10 =>
    if v3 = 0 then
      if z_inb v2 14 then
      some (((M10.1 (a + 13) v2.toNatClampNeg) / 2), M10)
      else none
    else
      if v3 = 1 then
        if z_inb v2 14 then
        some (((M10.1 (a + 13) v2.toNatClampNeg) &&& 1), M10)
        else none
      else
        if v3 = 2 then
          if z_inb v2 14 then
          zb (F_Model_zoneOf a (M10.1 (a + 13) v2.toNatClampNeg) M10) fun x12 =>
          some (x12, M10)
          else none
        else
          if v3 = 3 then
            if z_inb v2 14 then
            some ((M10.1 (a + 14) v2.toNatClampNeg), M10)
            else none
          else
            if v3 = 4 then
              if z_inb v2 14 then
              some ((M10.1 (a + 15) v2.toNatClampNeg), M10)
              else none
            else
              if z_inb v2 14 then
              some ((M10.1 (a + 16) v2.toNatClampNeg), M10)
              else none
  else
    some (0, M7)
def F_Model_stop_J49 (a : Nat) (v1 : Int32) (v2 : Int32) (v3 : Int32) (M : z_Mem) : Option (Int32 × z_Mem) :=
  F_Model_stop_J50 a v1 v2 v3 0 M
def F_Model_stop (a : Nat) (p0 : Int32) (p1 : Int32) (p2 : Int32) (M : z_Mem) : Option (Int32 × z_Mem) :=
  zl (z_wI M a 0 0) fun M1 =>
  zb2 (F_Model_noTaxi a p0 M1) fun x3 M2 =>
  if x3 = 0 then
    zb (F_Model_in2 a p0 11 M2) fun x4 =>
    zb (F_Model_in p1.toInt64 0 ((x4 - 1).toInt64) M2) fun x5 =>
    if x5 = 0 then
      F_Model_stop_J49 a p0 p1 p2 M2
    else
      zb (F_Model_in p2.toInt64 0 5 M2) fun x6 =>
      if x6 = 0 then
        F_Model_stop_J49 a p0 p1 p2 M2
      else
        F_Model_stop_J50 a p0 p1 p2 1 M2
  else
    some (0, M2)
def F_Model_ride (a : Nat) (p0 : Int32) (p1 : Int32) (M : z_Mem) : Option (Int32 × z_Mem) :=
  zl (z_wI M a 0 0) fun M1 =>
  zb2 (F_Model_noRide a p0 M1) fun x3 M2 =>
  if x3 = 0 then
    zb (F_Model_in p1.toInt64 0 13 M2) fun x4 =>
    zb2 (F_Model_fails a x4 1 M2) fun x6 M5 =>
    if x6 = 0 then
      if 7 ≤ p1 then
        if p1 = 7 then
          zb (F_Model_directOf a p0 M5) fun x13 =>
          some (x13, M5)
        else
          if p1 = 8 then
            zb (F_Model_mostOf a p0 M5) fun x12 =>
            some (x12, M5)
          else
            if p1 = 9 then
              zb (F_Model_of a p0 7 M5) fun x11 =>
              some (x11, M5)
            else
              if p1 = 10 then
                zb (F_Model_of a p0 8 M5) fun x10 =>
                some (x10, M5)
              else
                if p1 = 11 then
                  zb (F_Model_of a p0 9 M5) fun x9 =>
                  some (x9, M5)
                else
                  if p1 = 12 then
                    zb (F_Model_of a p0 10 M5) fun x8 =>
                    some (x8, M5)
                  else
                    zb (F_Model_of a p0 11 M5) fun x7 =>
                    some (x7, M5)
      else
        zb (F_Model_of a p0 p1 M5) fun x14 =>
        some (x14, M5)
    else
      some (0, M5)
  else
    some (0, M2)
def F_Model_offer (a : Nat) (p0 : Int32) (p1 : Int32) (M : z_Mem) : Option (Int32 × z_Mem) :=
  zl (z_wI M a 0 0) fun M1 =>
  zb2 (F_Model_noRide a p0 M1) fun x3 M2 =>
  if x3 = 0 then
    zb (F_Model_in p1.toInt64 0 4 M2) fun x4 =>
    zb2 (F_Model_fails a x4 1 M2) fun x6 M5 =>
    if x6 = 0 then
      zb (F_Model_of a p0 0 M5) fun x7 =>
      if x7 = 0 then
        zb (F_Model_of a p0 (12 + p1) M5) fun x8 =>
        some (x8, M5)
      else
        some ((-1), M5)
    else
      some (0, M5)
  else
    some (0, M2)
def F_Model_extra (a : Nat) (p0 : Int32) (p1 : Int32) (M : z_Mem) : Option (Int32 × z_Mem) :=
  zl (z_wI M a 0 0) fun M1 =>
  zb2 (F_Model_noRide a p0 M1) fun x3 M2 =>
  if x3 = 0 then
    zb2 (F_Model_noTaxi a p1 M2) fun x5 M4 =>
    if x5 = 0 then
      zb (F_Model_of a p0 0 M4) fun x6 =>
      if x6 = 0 then
        zb2 (F_Model_findsBest a p1 p0 M4) fun x8 M7 =>
        if x8 = 0 then
          some ((-1), M7)
        else
          some ((M7.1 a 40), M7)
      else
        some ((-1), M4)
    else
      some (0, M4)
  else
    some (0, M2)
def F_Model_willPay_J248 (a : Nat) (rec47 : Int32 → Int32 → Int32 → Int32 → z_Mem → Option (Int32 × z_Mem)) (v2 : Int32) (v4 : Int32) (v5 : Int32) (s0 : Int32) (s1 : Int32) (M : z_Mem) : Option (Int32 × z_Mem) :=
  zl ((s1 + s0)) fun x14 =>
  zl (v5 + 1) fun x15 =>
  rec47 v2 x14 v4 x15 M
def F_Model_willPay_J181 (a : Nat) (rec47 : Int32 → Int32 → Int32 → Int32 → z_Mem → Option (Int32 × z_Mem)) (rec88 : Int32 → Int32 → Int32 → Int32 → Int32 → Int32 → Int32 → Int32 → z_Mem → Option (Int32 × z_Mem)) (v2 : Int32) (v3 : Int32) (v4 : Int32) (v5 : Int32) (v6 : Int32) (v7 : Int32) (v9 : Int32) (s0 : Int32) (s1 : Int32) (M : z_Mem) : Option (Int32 × z_Mem) :=
  zl ((s1 + s0)) fun x17 =>
  zl (v9 + 1) fun x18 =>
  rec88 v2 v3 v4 v5 v6 v7 x17 x18 M
def F_Model_willPay_J169 (a : Nat) (rec47 : Int32 → Int32 → Int32 → Int32 → z_Mem → Option (Int32 × z_Mem)) (rec88 : Int32 → Int32 → Int32 → Int32 → Int32 → Int32 → Int32 → Int32 → z_Mem → Option (Int32 × z_Mem)) (v2 : Int32) (v3 : Int32) (v4 : Int32) (v5 : Int32) (v6 : Int32) (v7 : Int32) (v8 : Int32) (v9 : Int32) (v10 : Int32) (M : z_Mem) : Option (Int32 × z_Mem) :=
  if v10 = 0 then
    F_Model_willPay_J181 a rec47 rec88 v2 v3 v4 v5 v6 v7 v9 0 v8 M
  else
    F_Model_willPay_J181 a rec47 rec88 v2 v3 v4 v5 v6 v7 v9 1 v8 M
def F_Model_willPay_J148 (a : Nat) (rec47 : Int32 → Int32 → Int32 → Int32 → z_Mem → Option (Int32 × z_Mem)) (rec88 : Int32 → Int32 → Int32 → Int32 → Int32 → Int32 → Int32 → Int32 → z_Mem → Option (Int32 × z_Mem)) (v2 : Int32) (v3 : Int32) (v4 : Int32) (v5 : Int32) (v6 : Int32) (v7 : Int32) (v8 : Int32) (v9 : Int32) (s0 : Int32) (M : z_Mem) : Option (Int32 × z_Mem) :=
  if s0 = 0 then
    F_Model_willPay_J169 a rec47 rec88 v2 v3 v4 v5 v6 v7 v8 v9 s0 M
  else
    if z_inb v9 40 then
    if z_inb v8 40 then
    zl (z_wI M (a + 20) v8.toNatClampNeg (M.1 (a + 20) v9.toNatClampNeg)) fun M16 =>
    F_Model_willPay_J169 a rec47 rec88 v2 v3 v4 v5 v6 v7 v8 v9 s0 M16
    else none
    else none
def F_Model_willPay_J143 (a : Nat) (rec47 : Int32 → Int32 → Int32 → Int32 → z_Mem → Option (Int32 × z_Mem)) (rec88 : Int32 → Int32 → Int32 → Int32 → Int32 → Int32 → Int32 → Int32 → z_Mem → Option (Int32 × z_Mem)) (v2 : Int32) (v3 : Int32) (v4 : Int32) (v5 : Int32) (v6 : Int32) (v7 : Int32) (v8 : Int32) (v9 : Int32) (M : z_Mem) : Option (Int32 × z_Mem) :=
  F_Model_willPay_J148 a rec47 rec88 v2 v3 v4 v5 v6 v7 v8 v9 1 M
def F_Model_willPay_J118 (a : Nat) (rec47 : Int32 → Int32 → Int32 → Int32 → z_Mem → Option (Int32 × z_Mem)) (rec88 : Int32 → Int32 → Int32 → Int32 → Int32 → Int32 → Int32 → Int32 → z_Mem → Option (Int32 × z_Mem)) (v2 : Int32) (v3 : Int32) (v4 : Int32) (v5 : Int32) (v6 : Int32) (v7 : Int32) (v8 : Int32) (v9 : Int32) (M : z_Mem) : Option (Int32 × z_Mem) :=
  if z_inb v5 14 then
  if ((M.1 (a + 13) v5.toNatClampNeg) &&& 1) = 1 then
    F_Model_willPay_J143 a rec47 rec88 v2 v3 v4 v5 v6 v7 v8 v9 M
  else
    if z_inb v9 40 then
    if (M.1 (a + 20) v9.toNatClampNeg) = v7 then
      F_Model_willPay_J148 a rec47 rec88 v2 v3 v4 v5 v6 v7 v8 v9 0 M
    else
      F_Model_willPay_J143 a rec47 rec88 v2 v3 v4 v5 v6 v7 v8 v9 M
    else none
  else none
def F_Model_willPay_B88 (a : Nat) (rec47 : Int32 → Int32 → Int32 → Int32 → z_Mem → Option (Int32 × z_Mem)) (rec88 : Int32 → Int32 → Int32 → Int32 → Int32 → Int32 → Int32 → Int32 → z_Mem → Option (Int32 × z_Mem)) (v2 : Int32) (v3 : Int32) (v4 : Int32) (v5 : Int32) (v6 : Int32) (v7 : Int32) (v8 : Int32) (v9 : Int32) (M : z_Mem) : Option (Int32 × z_Mem) :=
  if v4 ≤ v9 then
    if z_inb v5 14 then
    if ((M.1 (a + 13) v5.toNatClampNeg) &&& 1) = 0 then
      zl (v5 + 1) fun x7 =>
      rec47 v2 v3 v8 x7 M
    else
      zb (F_Model_of a v7 11 M) fun x8 =>
      if x8 = 1 then
        zl (v5 + 1) fun x11 =>
        rec47 v2 v3 v8 x11 M
      else
        if z_inb v8 40 then
        zl (z_wI M (a + 20) v8.toNatClampNeg v7) fun M9 =>
        zl (v8 + 1) fun x10 =>
        if v7 = v2 then
          F_Model_willPay_J248 a rec47 v2 x10 v5 (M9.1 a 18) v3 M9
        else
          F_Model_willPay_J248 a rec47 v2 x10 v5 0 v3 M9
        else none
    else none
  else
    if z_inb v9 40 then
    if (M.1 (a + 20) v9.toNatClampNeg) = v2 then
      zb (F_Model_partOf v6 v4 v9 M) fun x12 =>
      zl ((v3 + x12)) fun x13 =>
      F_Model_willPay_J118 a rec47 rec88 v2 x13 v4 v5 v6 v7 v8 v9 M
    else
      F_Model_willPay_J118 a rec47 rec88 v2 v3 v4 v5 v6 v7 v8 v9 M
    else none
def F_Model_willPay_L88 (a : Nat) (rec47 : Int32 → Int32 → Int32 → Int32 → z_Mem → Option (Int32 × z_Mem)) : Nat → Int32 → Int32 → Int32 → Int32 → Int32 → Int32 → Int32 → Int32 → z_Mem → Option (Int32 × z_Mem)
  | 0, _, _, _, _, _, _, _, _, _ => none
  | n9 + 1, v2, v3, v4, v5, v6, v7, v8, v9, M => F_Model_willPay_B88 a rec47 (F_Model_willPay_L88 a rec47 n9) v2 v3 v4 v5 v6 v7 v8 v9 M
def F_Model_willPay_B47 (a : Nat) (rec47 : Int32 → Int32 → Int32 → Int32 → z_Mem → Option (Int32 × z_Mem)) (v2 : Int32) (v3 : Int32) (v4 : Int32) (v5 : Int32) (M : z_Mem) : Option (Int32 × z_Mem) :=
  if (M.1 a 39) ≤ v5 then
    some (v3, M)
  else
    if z_inb v5 14 then
    zb (F_Model_amountFor a (M.1 (a + 18) v5.toNatClampNeg) v4 M) fun x5 =>
    if z_inb v5 14 then
    zl (((M.1 (a + 13) v5.toNatClampNeg) / 2)) fun x6 =>
    F_Model_willPay_L88 a rec47 10000 v2 v3 v4 v5 x5 x6 0 0 M
    else none
    else none
def F_Model_willPay_L47 (a : Nat) : Nat → Int32 → Int32 → Int32 → Int32 → z_Mem → Option (Int32 × z_Mem)
  | 0, _, _, _, _, _ => none
  | n9 + 1, v2, v3, v4, v5, M => F_Model_willPay_B47 a (F_Model_willPay_L47 a n9) v2 v3 v4 v5 M
def F_Model_willPay_B14 (a : Nat) (rec14 : Int32 → Int32 → Int32 → Int32 → Int32 → z_Mem → Option (Int32 × z_Mem)) (v1 : Int32) (v2 : Int32) (v3 : Int32) (v4 : Int32) (v5 : Int32) (M : z_Mem) : Option (Int32 × z_Mem) :=
  if v4 ≤ v5 then
    F_Model_willPay_L47 a 10000 v2 v3 v4 0 M
  else
    zb (F_Model_in2 a v1 (25 + v5) M) fun x2 =>
    if z_inb v5 40 then
    zl (z_wI M (a + 20) v5.toNatClampNeg x2) fun M3 =>
    zl (v5 + 1) fun x4 =>
    rec14 v1 v2 v3 v4 x4 M3
    else none
def F_Model_willPay_L14 (a : Nat) : Nat → Int32 → Int32 → Int32 → Int32 → Int32 → z_Mem → Option (Int32 × z_Mem)
  | 0, _, _, _, _, _, _ => none
  | n9 + 1, v1, v2, v3, v4, v5, M => F_Model_willPay_B14 a (F_Model_willPay_L14 a n9) v1 v2 v3 v4 v5 M
def F_Model_willPay (a : Nat) (p0 : Int32) (p1 : Int32) (M : z_Mem) : Option (Int32 × z_Mem) :=
  zb (F_Model_in2 a p0 24 M) fun x1 =>
  F_Model_willPay_L14 a 10000 p0 p1 0 x1 0 M
def F_Model_fare (a : Nat) (p0 : Int32) (M : z_Mem) : Option (Int32 × z_Mem) :=
  zl (z_wI M a 0 0) fun M1 =>
  zb2 (F_Model_noRide a p0 M1) fun x3 M2 =>
  if x3 = 0 then
    zb (F_Model_of a p0 0 M2) fun x4 =>
    zb (F_Model_in x4.toInt64 1 2 M2) fun x5 =>
    if x5 = 0 then
      some ((-1), M2)
    else
      zb (F_Model_of a p0 11 M2) fun x6 =>
      if x6 = 1 then
        some ((-1), M2)
      else
        zb (F_Model_of a p0 7 M2) fun x7 =>
        zb (F_Model_lists a x7 M2) fun M8 =>
        zb (F_Model_of a p0 7 M8) fun x9 =>
        zb2 (F_Model_plans a x9 M8) fun x11 M10 =>
        zb (F_Model_of a p0 10 M10) fun x12 =>
        zb (F_Model_of a p0 7 M10) fun x13 =>
        zb2 (F_Model_willPay a x13 p0 M10) fun x15 M14 =>
        some ((x12 + x15), M14)
  else
    some (0, M2)
def F_Model_aloneFare (a : Nat) (p0 : Int32) (p1 : Int32) (M : z_Mem) : Option (Int32 × z_Mem) :=
  zl (z_wI M a 0 0) fun M1 =>
  zb2 (F_Model_noZone a p0 M1) fun x3 M2 =>
  if x3 = 0 then
    zb2 (F_Model_noZone a p1 M2) fun x5 M4 =>
    if x5 = 0 then
      zb (F_Model_minutesOf a p0 p1 M4) fun x6 =>
      if x6 = (-1) then
        some ((-1), M4)
      else
        zb (F_Model_minutesOf a p0 p1 M4) fun x7 =>
        if z_inb 2 581 then
        some (((M4.1 a 18) + (x7 * (M4.1 (a + 1) (2 : Int32).toNatClampNeg))), M4)
        else none
    else
      some (0, M4)
  else
    some (0, M2)
def F_Model_keeps (a : Nat) (p0 : Int32) (M : z_Mem) : Option (Int32 × z_Mem) :=
  zl (z_wI M a 0 0) fun M1 =>
  zb2 (F_Model_noTaxi a p0 M1) fun x3 M2 =>
  if x3 = 0 then
    zb (F_Model_lists a p0 M2) fun M4 =>
    zb2 (F_Model_plans a p0 M4) fun x6 M5 =>
    if x6 = 0 ∨ x6 = 1 then some (x6, M5) else none
  else
    some (0, M2)
def F_Model_routeMinutes (a : Nat) (p0 : Int32) (M : z_Mem) : Option (Int32 × z_Mem) :=
  zl (z_wI M a 0 0) fun M1 =>
  zb2 (F_Model_noTaxi a p0 M1) fun x3 M2 =>
  if x3 = 0 then
    zb (F_Model_lists a p0 M2) fun M4 =>
    zb (F_Model_sumOfWays a p0 M4) fun x5 =>
    some (x5, M4)
  else
    some (0, M2)
def F_Model_rides (a : Nat) (p0 : Int32) (M : z_Mem) : Option (Int32 × z_Mem) :=
  zl (z_wI M a 0 0) fun M1 =>
  zb (F_Model_in p0.toInt64 0 6 M1) fun x2 =>
  zb2 (F_Model_fails a x2 1 M1) fun x4 M3 =>
  if x4 = 0 then
    zb (F_Model_ridesIn a p0 M3) fun x5 =>
    some (x5, M3)
  else
    some (0, M3)
def F_Model_records_B54 (a : Nat) (rec54 : Int32 → z_Mem → Option (z_Mem)) (v1 : Int32) (M : z_Mem) : Option (z_Mem) :=
  if 581 ≤ v1 then
    zl (z_wI M a 6 ((M.1 a 6) + 1)) fun M1 =>
    some M1
  else
    if z_inb v1 581 then
    if z_inb ((581 * (M.1 a 6)) + v1) 5810 then
    zl (z_wI M (a + 4) ((581 * (M.1 a 6)) + v1).toNatClampNeg (M.1 (a + 1) v1.toNatClampNeg)) fun M2 =>
    zl (v1 + 1) fun x3 =>
    rec54 x3 M2
    else none
    else none
def F_Model_records_L54 (a : Nat) : Nat → Int32 → z_Mem → Option (z_Mem)
  | 0, _, _ => none
  | n9 + 1, v1, M => F_Model_records_B54 a (F_Model_records_L54 a n9) v1 M
def F_Model_records_J52 (a : Nat) (M : z_Mem) : Option (z_Mem) :=
  F_Model_records_L54 a 10000 0 M
def F_Model_records_B13 (a : Nat) (rec13 : Int32 → z_Mem → Option (z_Mem)) (v1 : Int32) (M : z_Mem) : Option (z_Mem) :=
  if 5810 ≤ v1 then
    zl (z_wI M a 6 ((M.1 a 6) - 1)) fun M4 =>
    F_Model_records_J52 a M4
  else
    if z_inb v1 5810 then
    if z_inb (v1 - 581) 5810 then
    zl (z_wI M (a + 4) (v1 - 581).toNatClampNeg (M.1 (a + 4) v1.toNatClampNeg)) fun M5 =>
    zl (v1 + 1) fun x6 =>
    rec13 x6 M5
    else none
    else none
def F_Model_records_L13 (a : Nat) : Nat → Int32 → z_Mem → Option (z_Mem)
  | 0, _, _ => none
  | n9 + 1, v1, M => F_Model_records_B13 a (F_Model_records_L13 a n9) v1 M
def F_Model_records (a : Nat) (M : z_Mem) : Option (z_Mem) :=
  if (M.1 a 6) = 10 then
    F_Model_records_L13 a 10000 581 M
  else
    F_Model_records_J52 a M
def F_Model_offers_J103 (a : Nat) (rec9 : Int32 → Int32 → z_Mem → Option (z_Mem)) (v1 : Int32) (v2 : Int32) (M : z_Mem) : Option (z_Mem) :=
  zb (F_Model_sets a v1 0 0 M) fun M15 =>
  zb (F_Model_sets a v1 12 v2 M15) fun M16 =>
  zb (F_Model_sets a v1 13 (M16.1 a 40) M16) fun M17 =>
  zb (F_Model_sets a v1 14 (M17.1 a 41) M17) fun M18 =>
  zb (F_Model_sets a v1 15 (M18.1 a 42) M18) fun M19 =>
  zl (v2 + 1) fun x20 =>
  rec9 v1 x20 M19
def F_Model_offers_J32 (a : Nat) (rec9 : Int32 → Int32 → z_Mem → Option (z_Mem)) (v1 : Int32) (v2 : Int32) (s0 : Int32) (M : z_Mem) : Option (z_Mem) :=
  zb (F_Model_directOf a v1 M) fun x5 =>
  if x5 = (-1) then
    zl (v2 + 1) fun x6 =>
    rec9 v1 x6 M
  else
    zb2 (F_Model_findsBest a v2 v1 M) fun x8 M7 =>
    if x8 = 0 then
      zl (v2 + 1) fun x14 =>
      rec9 v1 x14 M7
    else
      if s0 = 0 then
        zb (F_Model_of a v1 13 M7) fun x9 =>
        if x9 < (M7.1 a 40) then
          zl (v2 + 1) fun x10 =>
          rec9 v1 x10 M7
        else
          zb (F_Model_of a v1 13 M7) fun x11 =>
          if (M7.1 a 40) = x11 then
            zb (F_Model_of a v1 14 M7) fun x12 =>
            if (M7.1 a 41) < x12 then
              F_Model_offers_J103 a rec9 v1 v2 M7
            else
              zl (v2 + 1) fun x13 =>
              rec9 v1 x13 M7
          else
            F_Model_offers_J103 a rec9 v1 v2 M7
      else
        F_Model_offers_J103 a rec9 v1 v2 M7
def F_Model_offers_B9 (a : Nat) (rec9 : Int32 → Int32 → z_Mem → Option (z_Mem)) (v1 : Int32) (v2 : Int32) (M : z_Mem) : Option (z_Mem) :=
  if (M.1 a 17) ≤ v2 then
    if z_inb 0 581 then
    zb (F_Model_ruled a 2 M) fun x2 =>
    zb (F_Model_sets a v1 16 ((M.1 (a + 1) (0 : Int32).toNatClampNeg) + x2) M) fun M3 =>
    some M3
    else none
  else
    zb (F_Model_of a v1 0 M) fun x4 =>
    if x4 = 4 then
      F_Model_offers_J32 a rec9 v1 v2 1 M
    else
      F_Model_offers_J32 a rec9 v1 v2 0 M
def F_Model_offers_L9 (a : Nat) : Nat → Int32 → Int32 → z_Mem → Option (z_Mem)
  | 0, _, _, _ => none
  | n9 + 1, v1, v2, M => F_Model_offers_B9 a (F_Model_offers_L9 a n9) v1 v2 M
def F_Model_offers (a : Nat) (p0 : Int32) (M : z_Mem) : Option (z_Mem) :=
  zb (F_Model_sets a p0 0 4 M) fun M1 =>
  F_Model_offers_L9 a 10000 p0 0 M1
def F_Model_ask_B110 (a : Nat) (rec110 : Int32 → Int32 → Int32 → Int32 → Int32 → Int32 → Int32 → z_Mem → Option (Int32 × z_Mem)) (v1 : Int32) (v2 : Int32) (v3 : Int32) (v4 : Int32) (v5 : Int32) (v6 : Int32) (v7 : Int32) (M : z_Mem) : Option (Int32 × z_Mem) :=
  if 17 ≤ v7 then
    zb (F_Model_sets a v6 1 v1 M) fun M13 =>
    zb (F_Model_sets a v6 2 v2 M13) fun M14 =>
    zb (F_Model_sets a v6 3 v3 M14) fun M15 =>
    if z_inb 0 581 then
    zb (F_Model_sets a v6 4 ((M15.1 (a + 1) (0 : Int32).toNatClampNeg) + v4) M15) fun M16 =>
    if z_inb 0 581 then
    zb (F_Model_ruled a 0 M16) fun x17 =>
    zb (F_Model_sets a v6 5 (((M16.1 (a + 1) (0 : Int32).toNatClampNeg) + v4) + x17) M16) fun M18 =>
    zb (F_Model_sets a v6 6 v5 M18) fun M19 =>
    zb (F_Model_sets a v6 7 (-1) M19) fun M20 =>
    zb (F_Model_sets a v6 8 (-1) M20) fun M21 =>
    zb (F_Model_sets a v6 9 (-1) M21) fun M22 =>
    if z_inb 1 581 then
    if z_inb 1 581 then
    zl (z_wI M22 (a + 1) (1 : Int32).toNatClampNeg ((M22.1 (a + 1) (1 : Int32).toNatClampNeg) + 1)) fun M23 =>
    zb (F_Model_offers a v6 M23) fun M24 =>
    some (v6, M24)
    else none
    else none
    else none
    else none
  else
    zb (F_Model_sets a v6 v7 0 M) fun M25 =>
    zl (v7 + 1) fun x26 =>
    rec110 v1 v2 v3 v4 v5 v6 x26 M25
def F_Model_ask_L110 (a : Nat) : Nat → Int32 → Int32 → Int32 → Int32 → Int32 → Int32 → Int32 → z_Mem → Option (Int32 × z_Mem)
  | 0, _, _, _, _, _, _, _, _ => none
  | n9 + 1, v1, v2, v3, v4, v5, v6, v7, M => F_Model_ask_B110 a (F_Model_ask_L110 a n9) v1 v2 v3 v4 v5 v6 v7 M
def F_Model_ask_J72 (a : Nat) (v1 : Int32) (v2 : Int32) (v3 : Int32) (v4 : Int32) (v5 : Int32) (s0 : Int32) (M : z_Mem) : Option (Int32 × z_Mem) :=
  zb2 (F_Model_fails a s0 2 M) fun x10 M9 =>
  if x10 = 0 then
    if z_inb 1 581 then
    if (M9.1 (a + 1) (1 : Int32).toNatClampNeg) = 24 then
      some ((-2), M9)
    else
      zb (F_Model_records a M9) fun M11 =>
      if z_inb 1 581 then
      zl ((M11.1 (a + 1) (1 : Int32).toNatClampNeg)) fun x12 =>
      F_Model_ask_L110 a 10000 v1 v2 v3 v4 v5 x12 0 M11
      else none
    else none
  else
    some (0, M9)
def F_Model_ask_J71 (a : Nat) (v1 : Int32) (v2 : Int32) (v3 : Int32) (v4 : Int32) (v5 : Int32) (M : z_Mem) : Option (Int32 × z_Mem) :=
  F_Model_ask_J72 a v1 v2 v3 v4 v5 0 M
def F_Model_ask (a : Nat) (p0 : Int32) (p1 : Int32) (p2 : Int32) (p3 : Int32) (p4 : Int32) (M : z_Mem) : Option (Int32 × z_Mem) :=
  zl (z_wI M a 0 0) fun M1 =>
  zb2 (F_Model_noZone a p0 M1) fun x3 M2 =>
  if x3 = 0 then
    zb2 (F_Model_noZone a p1 M2) fun x5 M4 =>
    if x5 = 0 then
      zb (F_Model_in p2.toInt64 1 6 M4) fun x6 =>
      if x6 = 0 then
        F_Model_ask_J71 a p0 p1 p2 p3 p4 M4
      else
        zb (F_Model_in p3.toInt64 0 600 M4) fun x7 =>
        if x7 = 0 then
          F_Model_ask_J71 a p0 p1 p2 p3 p4 M4
        else
          zb (F_Model_in p4.toInt64 0 200 M4) fun x8 =>
          if x8 = 0 then
            F_Model_ask_J71 a p0 p1 p2 p3 p4 M4
          else
            if p0 = p1 then
              F_Model_ask_J71 a p0 p1 p2 p3 p4 M4
            else
              F_Model_ask_J72 a p0 p1 p2 p3 p4 1 M4
    else
      some (0, M4)
  else
    some (0, M2)
def F_Model_accept (a : Nat) (p0 : Int32) (M : z_Mem) : Option (Int32 × z_Mem) :=
  zl (z_wI M a 0 0) fun M1 =>
  zb2 (F_Model_noRide a p0 M1) fun x3 M2 =>
  if x3 = 0 then
    zb (F_Model_of a p0 0 M2) fun x4 =>
    if x4 = 0 then
      zb (F_Model_of a p0 12 M2) fun x5 =>
      zb2 (F_Model_findsBest a x5 p0 M2) fun x7 M6 =>
      if x7 = 0 then
        some ((-3), M6)
      else
        zb (F_Model_records a M6) fun M8 =>
        zb (F_Model_insertsAt a x5 p0 (M8.1 a 43) (M8.1 a 44) M8) fun M9 =>
        zb (F_Model_puts a x5 M9) fun M10 =>
        zb (F_Model_sets a p0 0 1 M10) fun M11 =>
        zb (F_Model_sets a p0 7 x5 M11) fun M12 =>
        some ((M12.1 a 41), M12)
    else
      some ((-2), M2)
  else
    some (0, M2)
def F_Model_decline (a : Nat) (p0 : Int32) (M : z_Mem) : Option (Int32 × z_Mem) :=
  zl (z_wI M a 0 0) fun M1 =>
  zb2 (F_Model_noRide a p0 M1) fun x3 M2 =>
  if x3 = 0 then
    zb (F_Model_of a p0 0 M2) fun x4 =>
    if x4 = 0 then
      zb (F_Model_records a M2) fun M5 =>
      zb (F_Model_sets a p0 0 4 M5) fun M6 =>
      zb (F_Model_ridesIn a 0 M6) fun x7 =>
      some (x7, M6)
    else
      some ((-2), M2)
  else
    some (0, M2)
def F_Model_cancel_J64 (a : Nat) (v1 : Int32) (v2 : Int32) (M : z_Mem) : Option (Int32 × z_Mem) :=
  zb (F_Model_records a M) fun M8 =>
  zb (F_Model_drops a v2 ((2 * v1) + 1) M8) fun M9 =>
  zb (F_Model_drops a v2 (2 * v1) M9) fun M10 =>
  zb (F_Model_sets a v1 0 6 M10) fun M11 =>
  zb (F_Model_in2 a v2 11 M11) fun x12 =>
  some (x12, M11)
def F_Model_cancel (a : Nat) (p0 : Int32) (M : z_Mem) : Option (Int32 × z_Mem) :=
  zl (z_wI M a 0 0) fun M1 =>
  zb2 (F_Model_noRide a p0 M1) fun x3 M2 =>
  if x3 = 0 then
    zb (F_Model_of a p0 0 M2) fun x4 =>
    if x4 = 1 then
      zb (F_Model_of a p0 7 M2) fun x5 =>
      zb (F_Model_in2 a x5 3 M2) fun x6 =>
      if x6 = (-1) then
        F_Model_cancel_J64 a p0 x5 M2
      else
        zb (F_Model_in2 a x5 12 M2) fun x7 =>
        if x7 = ((2 * p0) + 1) then
          some ((-3), M2)
        else
          F_Model_cancel_J64 a p0 x5 M2
    else
      some ((-2), M2)
  else
    some (0, M2)
def F_Model_absent (a : Nat) (p0 : Int32) (M : z_Mem) : Option (Int32 × z_Mem) :=
  zl (z_wI M a 0 0) fun M1 =>
  zb2 (F_Model_noRide a p0 M1) fun x3 M2 =>
  if x3 = 0 then
    zb (F_Model_of a p0 0 M2) fun x4 =>
    if x4 = 1 then
      zb (F_Model_of a p0 11 M2) fun x5 =>
      if x5 = 1 then
        some ((-2), M2)
      else
        zb (F_Model_records a M2) fun M6 =>
        zb (F_Model_of a p0 7 M6) fun x7 =>
        zb (F_Model_drops a x7 (2 * p0) M6) fun M8 =>
        zb (F_Model_sets a p0 11 1 M8) fun M9 =>
        zb (F_Model_of a p0 7 M9) fun x10 =>
        zb (F_Model_in2 a x10 11 M9) fun x11 =>
        some (x11, M9)
    else
      some ((-2), M2)
  else
    some (0, M2)
def F_Model_advance_B87 (a : Nat) (rec87 : Int32 → Int32 → Int32 → z_Mem → Option (Int32 × z_Mem)) (v2 : Int32) (v3 : Int32) (v4 : Int32) (M : z_Mem) : Option (Int32 × z_Mem) :=
  if z_inb 1 581 then
  if (M.1 (a + 1) (1 : Int32).toNatClampNeg) ≤ v4 then
    some (v3, M)
  else
    zb (F_Model_of a v4 0 M) fun x12 =>
    if x12 = 0 then
      zb (F_Model_of a v4 16 M) fun x14 =>
      if v2 ≤ x14 then
        zl (v4 + 1) fun x15 =>
        rec87 v2 v3 x15 M
      else
        zb (F_Model_sets a v4 0 4 M) fun M16 =>
        zl (v4 + 1) fun x17 =>
        rec87 v2 v3 x17 M16
    else
      zl (v4 + 1) fun x13 =>
      rec87 v2 v3 x13 M
  else none
def F_Model_advance_L87 (a : Nat) : Nat → Int32 → Int32 → Int32 → z_Mem → Option (Int32 × z_Mem)
  | 0, _, _, _, _ => none
  | n9 + 1, v2, v3, v4, M => F_Model_advance_B87 a (F_Model_advance_L87 a n9) v2 v3 v4 M
def F_Model_advance_B52 (a : Nat) (rec52 : Int32 → Int32 → Int32 → z_Mem → Option (Int32 × z_Mem)) (v2 : Int32) (v3 : Int32) (v4 : Int32) (M : z_Mem) : Option (Int32 × z_Mem) :=
  if (M.1 a 17) ≤ v4 then
    if z_inb 0 581 then
    zl (z_wI M (a + 1) (0 : Int32).toNatClampNeg v2) fun M7 =>
    F_Model_advance_L87 a 10000 v2 v3 0 M7
    else none
  else
    zb2 (F_Model_goesOn a v4 v2 M) fun x9 M8 =>
    zl ((v3 + x9)) fun x10 =>
    zl (v4 + 1) fun x11 =>
    rec52 v2 x10 x11 M8
def F_Model_advance_L52 (a : Nat) : Nat → Int32 → Int32 → Int32 → z_Mem → Option (Int32 × z_Mem)
  | 0, _, _, _, _ => none
  | n9 + 1, v2, v3, v4, M => F_Model_advance_B52 a (F_Model_advance_L52 a n9) v2 v3 v4 M
def F_Model_advance (a : Nat) (p0 : Int32) (M : z_Mem) : Option (Int32 × z_Mem) :=
  zl (z_wI M a 0 0) fun M1 =>
  zb (F_Model_in p0.toInt64 1 1440 M1) fun x2 =>
  zb2 (F_Model_fails a x2 1 M1) fun x4 M3 =>
  if x4 = 0 then
    if z_inb 0 581 then
    zl (((M3.1 (a + 1) (0 : Int32).toNatClampNeg) + p0)) fun x5 =>
    if x5 ≤ 9999 then
      zb (F_Model_records a M3) fun M6 =>
      F_Model_advance_L52 a 10000 x5 0 0 M6
    else
      some ((-2), M3)
    else none
  else
    some (0, M3)
def F_Model_tip (a : Nat) (p0 : Int32) (p1 : Int32) (M : z_Mem) : Option (Int32 × z_Mem) :=
  zl (z_wI M a 0 0) fun M1 =>
  zb2 (F_Model_noTaxi a p0 M1) fun x3 M2 =>
  if x3 = 0 then
    zb (F_Model_in p1.toInt64 1 2000000000 M2) fun x4 =>
    zb2 (F_Model_fails a x4 2 M2) fun x6 M5 =>
    if x6 = 0 then
      zb (F_Model_in2 a p0 5 M5) fun x7 =>
      if (lg_cmp (x7.toInt64 + p1.toInt64) 2000000000) ≤ 0 then
        zb (F_Model_records a M5) fun M8 =>
        zb (F_Model_grows a p0 5 p1 M8) fun M9 =>
        zb (F_Model_grows a p0 6 p1 M9) fun M10 =>
        zb (F_Model_in2 a p0 5 M10) fun x11 =>
        some (x11, M10)
      else
        some ((-5), M5)
    else
      some (0, M5)
  else
    some (0, M2)
def F_Model_setRate (a : Nat) (p0 : Int32) (M : z_Mem) : Option (Int32 × z_Mem) :=
  zl (z_wI M a 0 0) fun M1 =>
  zb (F_Model_in p0.toInt64 0 999 M1) fun x2 =>
  zb2 (F_Model_fails a x2 1 M1) fun x4 M3 =>
  if x4 = 0 then
    zb (F_Model_records a M3) fun M5 =>
    if z_inb 2 581 then
    zl ((M5.1 (a + 1) (2 : Int32).toNatClampNeg)) fun x6 =>
    if z_inb 2 581 then
    zl (z_wI M5 (a + 1) (2 : Int32).toNatClampNeg p0) fun M7 =>
    some (x6, M7)
    else none
    else none
  else
    some (0, M3)
def F_Model_setEnd (a : Nat) (p0 : Int32) (p1 : Int32) (M : z_Mem) : Option (Int32 × z_Mem) :=
  zl (z_wI M a 0 0) fun M1 =>
  zb2 (F_Model_noTaxi a p0 M1) fun x3 M2 =>
  if x3 = 0 then
    if z_inb p0 4 then
    zb (F_Model_in p1.toInt64 (((M2.1 (a + 11) p0.toNatClampNeg) + 1).toInt64) 2879 M2) fun x4 =>
    zb2 (F_Model_fails a x4 2 M2) fun x6 M5 =>
    if x6 = 0 then
      zb (F_Model_records a M5) fun M7 =>
      zb (F_Model_in2 a p0 4 M7) fun x8 =>
      zb (F_Model_lays2 a p0 4 p1 M7) fun M9 =>
      some (x8, M9)
    else
      some (0, M5)
    else none
  else
    some (0, M2)
def F_Model_setRule (a : Nat) (p0 : Int32) (p1 : Int32) (M : z_Mem) : Option (Int32 × z_Mem) :=
  zl (z_wI M a 0 0) fun M1 =>
  zb (F_Model_in p0.toInt64 0 9 M1) fun x2 =>
  zb2 (F_Model_fails a x2 1 M1) fun x4 M3 =>
  if x4 = 0 then
    zb (F_Model_least p0 M3) fun x5 =>
    zb (F_Model_most p0 M3) fun x6 =>
    zb (F_Model_in p1.toInt64 x5.toInt64 x6.toInt64 M3) fun x7 =>
    zb2 (F_Model_fails a x7 2 M3) fun x9 M8 =>
    if x9 = 0 then
      zb (F_Model_records a M8) fun M10 =>
      zb (F_Model_ruled a p0 M10) fun x11 =>
      if z_inb (3 + p0) 581 then
      zl (z_wI M10 (a + 1) (3 + p0).toNatClampNeg p1) fun M12 =>
      some (x11, M12)
      else none
    else
      some (0, M8)
  else
    some (0, M3)
def F_Model_undoCount (a : Nat) (M : z_Mem) : Option (Int32 × z_Mem) :=
  zl (z_wI M a 0 0) fun M1 =>
  some ((M1.1 a 6), M1)
def F_Model_undo_B26 (a : Nat) (rec26 : Int32 → z_Mem → Option (Int32 × z_Mem)) (v1 : Int32) (M : z_Mem) : Option (Int32 × z_Mem) :=
  if 581 ≤ v1 then
    some ((M.1 a 6), M)
  else
    if z_inb ((581 * (M.1 a 6)) + v1) 5810 then
    if z_inb v1 581 then
    zl (z_wI M (a + 1) v1.toNatClampNeg (M.1 (a + 4) ((581 * (M.1 a 6)) + v1).toNatClampNeg)) fun M3 =>
    zl (v1 + 1) fun x4 =>
    rec26 x4 M3
    else none
    else none
def F_Model_undo_L26 (a : Nat) : Nat → Int32 → z_Mem → Option (Int32 × z_Mem)
  | 0, _, _ => none
  | n9 + 1, v1, M => F_Model_undo_B26 a (F_Model_undo_L26 a n9) v1 M
def F_Model_undo (a : Nat) (M : z_Mem) : Option (Int32 × z_Mem) :=
  zl (z_wI M a 0 0) fun M1 =>
  if (M1.1 a 6) = 0 then
    some ((-1), M1)
  else
    zl (z_wI M1 a 6 ((M1.1 a 6) - 1)) fun M2 =>
    F_Model_undo_L26 a 10000 0 M2
def F_Model_saveSnapshot_B7 (a : Nat) (rec7 : Int32 → z_Mem → Option (z_Mem)) (v1 : Int32) (M : z_Mem) : Option (z_Mem) :=
  if 581 ≤ v1 then
    zl (z_wI M a 5 1) fun M2 =>
    some M2
  else
    if z_inb v1 581 then
    if z_inb v1 581 then
    zl (z_wI M (a + 3) v1.toNatClampNeg (M.1 (a + 1) v1.toNatClampNeg)) fun M3 =>
    zl (v1 + 1) fun x4 =>
    rec7 x4 M3
    else none
    else none
def F_Model_saveSnapshot_L7 (a : Nat) : Nat → Int32 → z_Mem → Option (z_Mem)
  | 0, _, _ => none
  | n9 + 1, v1, M => F_Model_saveSnapshot_B7 a (F_Model_saveSnapshot_L7 a n9) v1 M
def F_Model_saveSnapshot (a : Nat) (M : z_Mem) : Option (z_Mem) :=
  zl (z_wI M a 0 0) fun M1 =>
  F_Model_saveSnapshot_L7 a 10000 0 M1
def F_Model_restoreSnapshot_B16 (a : Nat) (rec16 : Int32 → z_Mem → Option (Int32 × z_Mem)) (v1 : Int32) (M : z_Mem) : Option (Int32 × z_Mem) :=
  if 581 ≤ v1 then
    zl (z_wI M a 6 0) fun M2 =>
    some (1, M2)
  else
    if z_inb v1 581 then
    if z_inb v1 581 then
    zl (z_wI M (a + 1) v1.toNatClampNeg (M.1 (a + 3) v1.toNatClampNeg)) fun M3 =>
    zl (v1 + 1) fun x4 =>
    rec16 x4 M3
    else none
    else none
def F_Model_restoreSnapshot_L16 (a : Nat) : Nat → Int32 → z_Mem → Option (Int32 × z_Mem)
  | 0, _, _ => none
  | n9 + 1, v1, M => F_Model_restoreSnapshot_B16 a (F_Model_restoreSnapshot_L16 a n9) v1 M
def F_Model_restoreSnapshot (a : Nat) (M : z_Mem) : Option (Int32 × z_Mem) :=
  zl (z_wI M a 0 0) fun M1 =>
  if (M1.1 a 5) = 0 then
    some (0, M1)
  else
    F_Model_restoreSnapshot_L16 a 10000 0 M1
def F_Model_says (a : Nat) (p0 : Int32) (M : z_Mem) : Option (z_Mem) :=
  if z_inb (M.1 a 47) 120 then
  zl (z_wI M (a + 21) (M.1 a 47).toNatClampNeg p0.toInt8.toInt32.toInt8.toInt32) fun M1 =>
  zl (z_wI M1 a 47 ((M1.1 a 47) + 1)) fun M2 =>
  some M2
  else none
def F_Model_saysNumber_B18 (a : Nat) (rec18 : Int32 → Int32 → z_Mem → Option (z_Mem)) (v1 : Int32) (v2 : Int32) (M : z_Mem) : Option (z_Mem) :=
  if v2 ≤ 0 then
    some M
  else
    if ¬ v2 = 0 then
    zb (F_Model_says a (48 + ((v1 / v2) - (v1 / v2) / 10 * 10)) M) fun M3 =>
    zl ((v2 / 10)) fun x4 =>
    rec18 v1 x4 M3
    else none
def F_Model_saysNumber_L18 (a : Nat) : Nat → Int32 → Int32 → z_Mem → Option (z_Mem)
  | 0, _, _, _ => none
  | n9 + 1, v1, v2, M => F_Model_saysNumber_B18 a (F_Model_saysNumber_L18 a n9) v1 v2 M
def F_Model_saysNumber_B2 (a : Nat) (rec2 : Int32 → Int32 → z_Mem → Option (z_Mem)) (v1 : Int32) (v2 : Int32) (M : z_Mem) : Option (z_Mem) :=
  if ¬ v2 = 0 then
  if (v1 / v2) ≤ 9 then
    F_Model_saysNumber_L18 a 10000 v1 v2 M
  else
    zl ((v2 * 10)) fun x1 =>
    rec2 v1 x1 M
  else none
def F_Model_saysNumber_L2 (a : Nat) : Nat → Int32 → Int32 → z_Mem → Option (z_Mem)
  | 0, _, _, _ => none
  | n9 + 1, v1, v2, M => F_Model_saysNumber_B2 a (F_Model_saysNumber_L2 a n9) v1 v2 M
def F_Model_saysNumber (a : Nat) (p0 : Int32) (M : z_Mem) : Option (z_Mem) :=
  F_Model_saysNumber_L2 a 10000 p0 1 M
def F_Model_format_J78 (a : Nat) (rec40 : Int32 → z_Mem → Option (Int32 × z_Mem)) (v2 : Int32) (s0 : Int32) (M : z_Mem) : Option (Int32 × z_Mem) :=
  zb (F_Model_says a s0 M) fun M8 =>
  if z_inb v2 14 then
  zb (F_Model_saysNumber a ((M8.1 (a + 13) v2.toNatClampNeg) / 2) M8) fun M9 =>
  zb (F_Model_says a 64 M9) fun M10 =>
  if z_inb v2 14 then
  zb (F_Model_zoneOf a (M10.1 (a + 13) v2.toNatClampNeg) M10) fun x11 =>
  zb (F_Model_saysNumber a x11 M10) fun M12 =>
  zl (v2 + 1) fun x13 =>
  rec40 x13 M12
  else none
  else none
def F_Model_format_J58 (a : Nat) (rec40 : Int32 → z_Mem → Option (Int32 × z_Mem)) (v2 : Int32) (M : z_Mem) : Option (Int32 × z_Mem) :=
  if z_inb v2 14 then
  if ((M.1 (a + 13) v2.toNatClampNeg) &&& 1) = 1 then
    F_Model_format_J78 a rec40 v2 43 M
  else
    F_Model_format_J78 a rec40 v2 45 M
  else none
def F_Model_format_B40 (a : Nat) (rec40 : Int32 → z_Mem → Option (Int32 × z_Mem)) (v2 : Int32) (M : z_Mem) : Option (Int32 × z_Mem) :=
  if (M.1 a 39) ≤ v2 then
    some ((M.1 a 47), M)
  else
    if v2 ≤ 0 then
      F_Model_format_J58 a rec40 v2 M
    else
      zb (F_Model_says a 32 M) fun M7 =>
      F_Model_format_J58 a rec40 v2 M7
def F_Model_format_L40 (a : Nat) : Nat → Int32 → z_Mem → Option (Int32 × z_Mem)
  | 0, _, _ => none
  | n9 + 1, v2, M => F_Model_format_B40 a (F_Model_format_L40 a n9) v2 M
def F_Model_format_J38 (a : Nat) (M : z_Mem) : Option (Int32 × z_Mem) :=
  F_Model_format_L40 a 10000 0 M
def F_Model_format (a : Nat) (p0 : Int32) (M : z_Mem) : Option (Int32 × z_Mem) :=
  zl (z_wI M a 0 0) fun M1 =>
  zb2 (F_Model_noTaxi a p0 M1) fun x3 M2 =>
  if x3 = 0 then
    zl (z_wI M2 a 47 0) fun M4 =>
    zb (F_Model_lists a p0 M4) fun M5 =>
    if (M5.1 a 39) = 0 then
      zb (F_Model_says a 46 M5) fun M6 =>
      F_Model_format_J38 a M6
    else
      F_Model_format_J38 a M5
  else
    some (0, M2)
def F_Model_formattedByte (a : Nat) (p0 : Int32) (M : z_Mem) : Option (Int32 × z_Mem) :=
  zl (z_wI M a 0 0) fun M1 =>
  zb (F_Model_in p0.toInt64 0 (((M1.1 a 47) - 1).toInt64) M1) fun x2 =>
  if x2 = 0 then
    some ((-1), M1)
  else
    if z_inb p0 120 then
    some ((M1.1 (a + 21) p0.toNatClampNeg), M1)
    else none
def F_Model_adds (a : Nat) (p0 : Int32) (M : z_Mem) : Option (z_Mem) :=
  if z_inb (M.1 a 51) 200 then
  zl (z_wI M (a + 22) (M.1 a 51).toNatClampNeg p0) fun M1 =>
  zl (z_wI M1 a 51 ((M1.1 a 51) + 1)) fun M2 =>
  some M2
  else none
def F_Model_propertyHere (a : Nat) (M : z_Mem) : Option (Int32) :=
  zb (F_Model_isWord a 360968 M) fun x1 =>
  if x1 = 0 then
    zb (F_Model_isWord a 10492313 M) fun x2 =>
    if x2 = 0 then
      zb (F_Model_isWord a 131638 M) fun x3 =>
      if x3 = 0 then
        zb (F_Model_isWord a 555 M) fun x4 =>
        if x4 = 0 then
          zb (F_Model_isWord a 6280423606 M) fun x5 =>
          if x5 = 0 then
            zb (F_Model_isWord a 9665215 M) fun x6 =>
            if x6 = 0 then
              zb (F_Model_isWord a 60458013 M) fun x7 =>
              if x7 = 0 then
                zb (F_Model_isWord a 119318 M) fun x8 =>
                if x8 = 0 then
                  zb (F_Model_isWord a 395046 M) fun x9 =>
                  if x9 = 0 then
                    some ((-1))
                  else
                    some (8)
                else
                  some (7)
              else
                some (6)
            else
              some (5)
          else
            some (4)
        else
          some (3)
      else
        some (2)
    else
      some (1)
  else
    some (0)
def F_Model_valueRead (a : Nat) (M : z_Mem) : Option (z_Mem) :=
  zb (F_Model_isGood a M) fun x1 =>
  if x1 = 0 then
    some M
  else
    if (M.1 a 27) = 2 then
      zb2 (F_Model_number a 0 99999 M) fun x8 M7 =>
      zb (F_Model_adds a (100 + x8) M7) fun M9 =>
      some M9
    else
      zb (F_Model_propertyHere a M) fun x2 =>
      if x2 = (-1) then
        zb2 (F_Model_wrongs a 1 M) fun x6 M5 =>
        some M5
      else
        zb (F_Model_adds a x2 M) fun M3 =>
        zb (F_Model_next a M3) fun M4 =>
        some M4
def F_Model_goesIn (a : Nat) (p0 : Int32) (M : z_Mem) : Option (Int32 × z_Mem) :=
  if (M.1 a 53) = 6 then
    zb2 (F_Model_wrongs a 3 M) fun x6 M5 =>
    if x6 = 0 ∨ x6 = 1 then some (x6, M5) else none
  else
    zl (z_wI M a 53 ((M.1 a 53) + 1)) fun M1 =>
    if z_inb (M1.1 a 52) 200 then
    zl (z_wI M1 (a + 23) (M1.1 a 52).toNatClampNeg p0) fun M2 =>
    zl (z_wI M2 a 52 ((M2.1 a 52) + 1)) fun M3 =>
    zb (F_Model_next a M3) fun M4 =>
    some (1, M4)
    else none
def F_Model_strength (p0 : Int32) (M : z_Mem) : Option (Int32) :=
  if p0 = 25 then
    some (1)
  else
    if p0 = 24 then
      some (2)
    else
      if p0 = 23 then
        some (3)
      else
        some (0)
def F_Model_settles_B0 (a : Nat) (rec0 : Int32 → z_Mem → Option (z_Mem)) (v1 : Int32) (M : z_Mem) : Option (z_Mem) :=
  zb (F_Model_isGood a M) fun x1 =>
  if x1 = 0 then
    some M
  else
    if (M.1 a 52) ≤ 0 then
      some M
    else
      if z_inb ((M.1 a 52) - 1) 200 then
      zb (F_Model_strength (M.1 (a + 23) ((M.1 a 52) - 1).toNatClampNeg) M) fun x2 =>
      if x2 < v1 then
        some M
      else
        zl (z_wI M a 52 ((M.1 a 52) - 1)) fun M3 =>
        if z_inb (M3.1 a 52) 200 then
        zb (F_Model_adds a (M3.1 (a + 23) (M3.1 a 52).toNatClampNeg) M3) fun M4 =>
        if z_inb (M4.1 a 52) 200 then
        if (M4.1 (a + 23) (M4.1 a 52).toNatClampNeg) = 23 then
          zl (z_wI M4 a 53 ((M4.1 a 53) - 1)) fun M5 =>
          rec0 v1 M5
        else
          rec0 v1 M4
        else none
        else none
      else none
def F_Model_settles_L0 (a : Nat) : Nat → Int32 → z_Mem → Option (z_Mem)
  | 0, _, _ => none
  | n9 + 1, v1, M => F_Model_settles_B0 a (F_Model_settles_L0 a n9) v1 M
def F_Model_settles (a : Nat) (p0 : Int32) (M : z_Mem) : Option (z_Mem) :=
  F_Model_settles_L0 a 10000 p0 M
def F_Model_isInside_B2 (a : Nat) (rec2 : Int32 → z_Mem → Option (Int32)) (v1 : Int32) (M : z_Mem) : Option (Int32) :=
  if (M.1 a 52) ≤ v1 then
    some (0)
  else
    if z_inb v1 200 then
    if (M.1 (a + 23) v1.toNatClampNeg) = 1 then
      some (1)
    else
      zl (v1 + 1) fun x1 =>
      rec2 x1 M
    else none
def F_Model_isInside_L2 (a : Nat) : Nat → Int32 → z_Mem → Option (Int32)
  | 0, _, _ => none
  | n9 + 1, v1, M => F_Model_isInside_B2 a (F_Model_isInside_L2 a n9) v1 M
def F_Model_isInside (a : Nat) (M : z_Mem) : Option (Int32) :=
  F_Model_isInside_L2 a 10000 0 M
def F_Model_comparisonRead_J36 (a : Nat) (rec0 : z_Mem → Option (z_Mem)) (s0 : Int32) (M : z_Mem) : Option (z_Mem) :=
  zb2 (F_Model_goesIn a s0 M) fun x8 M7 =>
  if x8 = 0 then
    some M7
  else
    rec0 M7
def F_Model_comparisonRead_J19 (a : Nat) (rec0 : z_Mem → Option (z_Mem)) (M : z_Mem) : Option (z_Mem) :=
  zb (F_Model_isWord a 10631 M) fun x6 =>
  if x6 = 0 then
    F_Model_comparisonRead_J36 a rec0 1 M
  else
    F_Model_comparisonRead_J36 a rec0 23 M
def F_Model_comparisonRead_J99 (a : Nat) (v1 : Int32) (M : z_Mem) : Option (z_Mem) :=
  zb (F_Model_isGood a M) fun x12 =>
  if x12 = 0 then
    some M
  else
    zb (F_Model_next a M) fun M13 =>
    zb (F_Model_valueRead a M13) fun M14 =>
    zb (F_Model_isGood a M14) fun x15 =>
    if x15 = 0 then
      some M14
    else
      zb (F_Model_adds a v1 M14) fun M16 =>
      some M16
def F_Model_comparisonRead_J77 (a : Nat) (s0 : Int32) (M : z_Mem) : Option (z_Mem) :=
  if s0 = 21 then
    zb (F_Model_isByte a 61 M) fun x9 =>
    if x9 = 0 then
      zb2 (F_Model_wrongs a 1 M) fun x11 M10 =>
      F_Model_comparisonRead_J99 a s0 M10
    else
      F_Model_comparisonRead_J99 a s0 M
  else
    F_Model_comparisonRead_J99 a s0 M
def F_Model_comparisonRead_B0 (a : Nat) (rec0 : z_Mem → Option (z_Mem)) (M : z_Mem) : Option (z_Mem) :=
  zb (F_Model_isWord a 10631 M) fun x1 =>
  if x1 = 0 then
    zb (F_Model_isByte a 40 M) fun x2 =>
    if x2 = 0 then
      zb (F_Model_valueRead a M) fun M3 =>
      zb (F_Model_isByte a 60 M3) fun x4 =>
      if x4 = 0 then
        zb (F_Model_isByte a 62 M3) fun x5 =>
        if x5 = 0 then
          F_Model_comparisonRead_J77 a 21 M3
        else
          F_Model_comparisonRead_J77 a 22 M3
      else
        F_Model_comparisonRead_J77 a 20 M3
    else
      F_Model_comparisonRead_J19 a rec0 M
  else
    F_Model_comparisonRead_J19 a rec0 M
def F_Model_comparisonRead_L0 (a : Nat) : Nat → z_Mem → Option (z_Mem)
  | 0, _ => none
  | n9 + 1, M => F_Model_comparisonRead_B0 a (F_Model_comparisonRead_L0 a n9) M
def F_Model_comparisonRead (a : Nat) (M : z_Mem) : Option (z_Mem) :=
  F_Model_comparisonRead_L0 a 10000 M
def F_Model_closes_B5 (a : Nat) (rec5 : z_Mem → Option (z_Mem)) (M : z_Mem) : Option (z_Mem) :=
  zb (F_Model_isByte a 41 M) fun x2 =>
  if x2 = 0 then
    some M
  else
    zb (F_Model_isInside a M) fun x3 =>
    if x3 = 0 then
      some M
    else
      zb (F_Model_settles a 1 M) fun M4 =>
      zl (z_wI M4 a 52 ((M4.1 a 52) - 1)) fun M5 =>
      zl (z_wI M5 a 53 ((M5.1 a 53) - 1)) fun M6 =>
      zb (F_Model_next a M6) fun M7 =>
      zb (F_Model_settles a 3 M7) fun M8 =>
      rec5 M8
def F_Model_closes_L5 (a : Nat) : Nat → z_Mem → Option (z_Mem)
  | 0, _ => none
  | n9 + 1, M => F_Model_closes_B5 a (F_Model_closes_L5 a n9) M
def F_Model_closes (a : Nat) (M : z_Mem) : Option (z_Mem) :=
  zb (F_Model_settles a 3 M) fun M1 =>
  F_Model_closes_L5 a 10000 M1
def F_Model_reads_J151 (a : Nat) (M : z_Mem) : Option (z_Mem) :=
  zb (F_Model_settles a 1 M) fun M12 =>
  some M12
def F_Model_reads_J145 (a : Nat) (M : z_Mem) : Option (z_Mem) :=
  zb2 (F_Model_wrongs a 1 M) fun x14 M13 =>
  F_Model_reads_J151 a M13
def F_Model_reads_J81 (a : Nat) (rec20 : Int32 → z_Mem → Option (z_Mem)) (v2 : Int32) (s0 : Int32) (M : z_Mem) : Option (z_Mem) :=
  if s0 = 0 then
    rec20 s0 M
  else
    zb (F_Model_strength v2 M) fun x15 =>
    zb (F_Model_settles a x15 M) fun M16 =>
    if z_inb (M16.1 a 52) 200 then
    zl (z_wI M16 (a + 23) (M16.1 a 52).toNatClampNeg v2) fun M17 =>
    zl (z_wI M17 a 52 ((M17.1 a 52) + 1)) fun M18 =>
    zb (F_Model_next a M18) fun M19 =>
    rec20 s0 M19
    else none
def F_Model_reads_J71 (a : Nat) (rec20 : Int32 → z_Mem → Option (z_Mem)) (s0 : Int32) (M : z_Mem) : Option (z_Mem) :=
  if s0 = 0 then
    F_Model_reads_J81 a rec20 s0 0 M
  else
    F_Model_reads_J81 a rec20 s0 1 M
def F_Model_reads_B20 (a : Nat) (rec20 : Int32 → z_Mem → Option (z_Mem)) (v1 : Int32) (M : z_Mem) : Option (z_Mem) :=
  if v1 = 0 then
    zb (F_Model_isGood a M) fun x5 =>
    if x5 = 0 then
      F_Model_reads_J151 a M
    else
      zb (F_Model_isInside a M) fun x6 =>
      if x6 = 0 then
        if (M.1 a 27) = 0 then
          F_Model_reads_J151 a M
        else
          F_Model_reads_J145 a M
      else
        F_Model_reads_J145 a M
  else
    zb (F_Model_comparisonRead a M) fun M7 =>
    zb (F_Model_isGood a M7) fun x8 =>
    if x8 = 0 then
      some M7
    else
      zb (F_Model_closes a M7) fun M9 =>
      zb (F_Model_isWord a 1111 M9) fun x10 =>
      if x10 = 0 then
        zb (F_Model_isWord a 423 M9) fun x11 =>
        if x11 = 0 then
          F_Model_reads_J71 a rec20 0 M9
        else
          F_Model_reads_J71 a rec20 25 M9
      else
        F_Model_reads_J71 a rec20 24 M9
def F_Model_reads_L20 (a : Nat) : Nat → Int32 → z_Mem → Option (z_Mem)
  | 0, _, _ => none
  | n9 + 1, v1, M => F_Model_reads_B20 a (F_Model_reads_L20 a n9) v1 M
def F_Model_reads (a : Nat) (M : z_Mem) : Option (z_Mem) :=
  zl (z_wI M a 51 0) fun M1 =>
  zl (z_wI M1 a 53 0) fun M2 =>
  zl (z_wI M2 a 52 0) fun M3 =>
  zb (F_Model_isGood a M3) fun x4 =>
  F_Model_reads_L20 a 10000 x4 M3
def F_Model_propertyOf (a : Nat) (p0 : Int32) (p1 : Int32) (M : z_Mem) : Option (Int32) :=
  if p0 = 0 then
    some (p1)
  else
    if p0 = 1 then
      zb (F_Model_of a p1 0 M) fun x8 =>
      some (x8)
    else
      if p0 = 2 then
        zb (F_Model_of a p1 1 M) fun x7 =>
        some (x7)
      else
        if p0 = 3 then
          zb (F_Model_of a p1 2 M) fun x6 =>
          some (x6)
        else
          if p0 = 4 then
            zb (F_Model_of a p1 3 M) fun x5 =>
            some (x5)
          else
            if p0 = 5 then
              zb (F_Model_of a p1 4 M) fun x4 =>
              some (x4)
            else
              if p0 = 6 then
                zb (F_Model_of a p1 6 M) fun x3 =>
                some (x3)
              else
                if p0 = 7 then
                  zb (F_Model_of a p1 10 M) fun x2 =>
                  some (x2)
                else
                  zb (F_Model_of a p1 7 M) fun x1 =>
                  some ((x1 + 1))
def F_Model_joined (p0 : Int32) (p1 : Int32) (p2 : Int32) (M : z_Mem) : Option (Int32) :=
  if p0 = 20 then
    if p2 ≤ p1 then
      some (0)
    else
      some (1)
  else
    if p0 = 21 then
      if p1 = p2 then
        some (1)
      else
        some (0)
    else
      if p0 = 22 then
        if p1 ≤ p2 then
          some (0)
        else
          some (1)
      else
        if p0 = 23 then
          if (p1 + p2) ≤ 0 then
            some (0)
          else
            some (1)
        else
          if p0 = 24 then
            if (p1 + p2) = 2 then
              some (1)
            else
              some (0)
          else
            if (p1 + p2) ≤ 0 then
              some (0)
            else
              some (1)
def F_Model_holds_J131 (a : Nat) (rec4 : Int32 → Int32 → Int32 → z_Mem → Option (Int32 × z_Mem)) (v1 : Int32) (v2 : Int32) (v3 : Int32) (s0 : Int32) (s1 : Int32) (M : z_Mem) : Option (Int32 × z_Mem) :=
  if z_inb s1 200 then
  zl (z_wI M (a + 24) s1.toNatClampNeg s0) fun M8 =>
  zl (v2 + 1) fun x9 =>
  zl (v3 + 1) fun x10 =>
  rec4 v1 x9 x10 M8
  else none
def F_Model_holds_J100 (a : Nat) (rec4 : Int32 → Int32 → Int32 → z_Mem → Option (Int32 × z_Mem)) (v1 : Int32) (v2 : Int32) (v3 : Int32) (s0 : Int32) (s1 : Int32) (M : z_Mem) : Option (Int32 × z_Mem) :=
  if z_inb s1 200 then
  zl (z_wI M (a + 24) s1.toNatClampNeg s0) fun M11 =>
  zl (v3 + 1) fun x12 =>
  rec4 v1 v2 x12 M11
  else none
def F_Model_holds_B4 (a : Nat) (rec4 : Int32 → Int32 → Int32 → z_Mem → Option (Int32 × z_Mem)) (v1 : Int32) (v2 : Int32) (v3 : Int32) (M : z_Mem) : Option (Int32 × z_Mem) :=
  if (M.1 a 51) ≤ v3 then
    if z_inb 0 200 then
    if (M.1 (a + 24) (0 : Int32).toNatClampNeg) = 1 then
      some (1, M)
    else
      some (0, M)
    else none
  else
    if z_inb v3 200 then
    zl ((M.1 (a + 22) v3.toNatClampNeg)) fun x1 =>
    if x1 = 23 then
      if z_inb (v2 - 1) 200 then
      if z_inb (v2 - 1) 200 then
      zl (z_wI M (a + 24) (v2 - 1).toNatClampNeg (1 - (M.1 (a + 24) (v2 - 1).toNatClampNeg))) fun M6 =>
      zl (v3 + 1) fun x7 =>
      rec4 v1 v2 x7 M6
      else none
      else none
    else
      zb (F_Model_in x1.toInt64 20 25 M) fun x2 =>
      if x2 = 0 then
        if x1 < 100 then
          zb (F_Model_propertyOf a x1 v1 M) fun x3 =>
          F_Model_holds_J131 a rec4 v1 v2 v3 x3 v2 M
        else
          F_Model_holds_J131 a rec4 v1 v2 v3 (x1 - 100) v2 M
      else
        zl (v2 + (-1)) fun x4 =>
        if z_inb (x4 - 1) 200 then
        if z_inb x4 200 then
        zb (F_Model_joined x1 (M.1 (a + 24) (x4 - 1).toNatClampNeg) (M.1 (a + 24) x4.toNatClampNeg) M) fun x5 =>
        if x5 = 0 then
          F_Model_holds_J100 a rec4 v1 x4 v3 0 (x4 - 1) M
        else
          F_Model_holds_J100 a rec4 v1 x4 v3 1 (x4 - 1) M
        else none
        else none
    else none
def F_Model_holds_L4 (a : Nat) : Nat → Int32 → Int32 → Int32 → z_Mem → Option (Int32 × z_Mem)
  | 0, _, _, _, _ => none
  | n9 + 1, v1, v2, v3, M => F_Model_holds_B4 a (F_Model_holds_L4 a n9) v1 v2 v3 M
def F_Model_holds (a : Nat) (p0 : Int32) (M : z_Mem) : Option (Int32 × z_Mem) :=
  F_Model_holds_L4 a 10000 p0 0 0 M
def F_Model_query_B90 (a : Nat) (rec90 : Int32 → Int32 → Int32 → z_Mem → Option (Int32 × z_Mem)) (v2 : Int32) (v3 : Int32) (v4 : Int32) (M : z_Mem) : Option (Int32 × z_Mem) :=
  if z_inb 1 581 then
  if (M.1 (a + 1) (1 : Int32).toNatClampNeg) ≤ v4 then
    if v2 = 0 then
      some (v3, M)
    else
      some ((-1), M)
  else
    zb2 (F_Model_holds a v4 M) fun x16 M15 =>
    if x16 = 0 then
      zl (v4 + 1) fun x19 =>
      rec90 v2 v3 x19 M15
    else
      if v2 = 0 then
        zl (v3 + 1) fun x17 =>
        zl (v4 + 1) fun x18 =>
        rec90 v2 x17 x18 M15
      else
        some (v4, M15)
  else none
def F_Model_query_L90 (a : Nat) : Nat → Int32 → Int32 → Int32 → z_Mem → Option (Int32 × z_Mem)
  | 0, _, _, _, _ => none
  | n9 + 1, v2, v3, v4, M => F_Model_query_B90 a (F_Model_query_L90 a n9) v2 v3 v4 M
def F_Model_query_J65 (a : Nat) (v2 : Int32) (M : z_Mem) : Option (Int32 × z_Mem) :=
  zb (F_Model_reads a M) fun M13 =>
  zb (F_Model_isGood a M13) fun x14 =>
  if x14 = 0 then
    some (((-1000000000) - (M13.1 a 30)), M13)
  else
    F_Model_query_L90 a 10000 v2 0 0 M13
def F_Model_query (a : Nat) (p0 : Int32) (M : z_Mem) : Option (Int32 × z_Mem) :=
  zl (z_wI M a 0 0) fun M1 =>
  zb (F_Model_lesser (M1.1 a 23) 200 M1) fun x2 =>
  zb (F_Model_in p0.toInt64 0 x2.toInt64 M1) fun x3 =>
  zb2 (F_Model_fails a x3 1 M1) fun x5 M4 =>
  if x5 = 0 then
    zb (F_Model_starts a p0 M4) fun M6 =>
    zb2 (F_Model_passes a 3379448 M6) fun x8 M7 =>
    if x8 = 0 then
      zb2 (F_Model_passes a 257011 M7) fun x10 M9 =>
      if x10 = 0 then
        zb2 (F_Model_wrongs a 1 M9) fun x12 M11 =>
        F_Model_query_J65 a x8 M11
      else
        F_Model_query_J65 a x8 M9
    else
      F_Model_query_J65 a x8 M7
  else
    some (0, M4)
