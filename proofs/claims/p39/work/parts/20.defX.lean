/-! ===== the class's methods as terms (by program) ===== -/
def F_Desk_clear_B27 (a : Nat) (rec27 : Int32 → z_Mem → Option (z_Mem)) (v1 : Int32) (M : z_Mem) : Option (z_Mem) :=
  if 10 ≤ v1 then
    some M
  else
    if z_inb v1 10 then
    if z_inb v1 10 then
    zl (z_wI M (a + 1) v1.toNatClampNeg (z_sv 0 v1.toNatClampNeg)) fun M6 =>
    zl (v1 + 1) fun x7 =>
    rec27 x7 M6
    else none
    else none
def F_Desk_clear_L27 (a : Nat) : Nat → Int32 → z_Mem → Option (z_Mem)
  | 0, _, _ => none
  | n9 + 1, v1, M => F_Desk_clear_B27 a (F_Desk_clear_L27 a n9) v1 M
def F_Desk_clear (a : Nat) (M : z_Mem) : Option (z_Mem) :=
  zl (z_wI M a 0 0) fun M1 =>
  zl (z_wI M1 a 1 0) fun M2 =>
  zl (z_wI M2 a 2 0) fun M3 =>
  zl (z_wI M3 a 3 0) fun M4 =>
  zl (z_wI M4 a 4 0) fun M5 =>
  F_Desk_clear_L27 a 10000 0 M5
def F_Taxi_copyFrom_B100 (a : Nat) (rec100 : Nat → Int32 → z_Mem → Option (z_Mem)) (u1 : Nat) (v2 : Int32) (M : z_Mem) : Option (z_Mem) :=
  if 6 ≤ v2 then
    zl (z_wI M a 11 (M.1 u1 11)) fun M12 =>
    zl (z_wI M12 a 12 (M12.1 u1 12)) fun M13 =>
    zl (z_wI M13 a 13 (M13.1 u1 13)) fun M14 =>
    zl (z_wI M14 a 14 (M14.1 u1 14)) fun M15 =>
    zl (z_wI M15 a 15 (M15.1 u1 15)) fun M16 =>
    zl (z_wI M16 a 16 (M16.1 u1 16)) fun M17 =>
    some M17
  else
    if z_inb v2 6 then
    if z_inb v2 6 then
    zl (z_wI M (a + 2) v2.toNatClampNeg (M.1 (u1 + 2) v2.toNatClampNeg)) fun M18 =>
    zl (v2 + 1) fun x19 =>
    rec100 u1 x19 M18
    else none
    else none
def F_Taxi_copyFrom_L100 (a : Nat) : Nat → Nat → Int32 → z_Mem → Option (z_Mem)
  | 0, _, _, _ => none
  | n9 + 1, u1, v2, M => F_Taxi_copyFrom_B100 a (F_Taxi_copyFrom_L100 a n9) u1 v2 M
def F_Taxi_copyFrom_B74 (a : Nat) (rec74 : Nat → Int32 → z_Mem → Option (z_Mem)) (u1 : Nat) (v2 : Int32) (M : z_Mem) : Option (z_Mem) :=
  if 12 ≤ v2 then
    F_Taxi_copyFrom_L100 a 10000 u1 0 M
  else
    if z_inb v2 12 then
    if z_inb v2 12 then
    zl (z_wI M (a + 1) v2.toNatClampNeg (M.1 (u1 + 1) v2.toNatClampNeg)) fun M10 =>
    zl (v2 + 1) fun x11 =>
    rec74 u1 x11 M10
    else none
    else none
def F_Taxi_copyFrom_L74 (a : Nat) : Nat → Nat → Int32 → z_Mem → Option (z_Mem)
  | 0, _, _, _ => none
  | n9 + 1, u1, v2, M => F_Taxi_copyFrom_B74 a (F_Taxi_copyFrom_L74 a n9) u1 v2 M
def F_Taxi_copyFrom (a : Nat) (r0 : Nat) (M : z_Mem) : Option (z_Mem) :=
  zl (z_wI M a 0 (M.1 r0 0)) fun M1 =>
  zl (z_wI M1 a 1 (M1.1 r0 1)) fun M2 =>
  zl (z_wI M2 a 2 (M2.1 r0 2)) fun M3 =>
  zl (z_wI M3 a 3 (M3.1 r0 3)) fun M4 =>
  zl (z_wI M4 a 4 (M4.1 r0 4)) fun M5 =>
  zl (z_wI M5 a 5 (M5.1 r0 5)) fun M6 =>
  zl (z_wI M6 a 6 (M6.1 r0 6)) fun M7 =>
  zl (z_wI M7 a 7 (M7.1 r0 7)) fun M8 =>
  zl (z_wI M8 a 8 (M8.1 r0 8)) fun M9 =>
  F_Taxi_copyFrom_L74 a 10000 r0 0 M9
def F_Ride_copyFrom (a : Nat) (r0 : Nat) (M : z_Mem) : Option (z_Mem) :=
  zl (z_wI M a 0 (M.1 r0 0)) fun M1 =>
  zl (z_wI M1 a 1 (M1.1 r0 1)) fun M2 =>
  zl (z_wI M2 a 2 (M2.1 r0 2)) fun M3 =>
  zl (z_wI M3 a 3 (M3.1 r0 3)) fun M4 =>
  zl (z_wI M4 a 4 (M4.1 r0 4)) fun M5 =>
  zl (z_wI M5 a 5 (M5.1 r0 5)) fun M6 =>
  zl (z_wI M6 a 6 (M6.1 r0 6)) fun M7 =>
  zl (z_wI M7 a 7 (M7.1 r0 7)) fun M8 =>
  zl (z_wI M8 a 8 (M8.1 r0 8)) fun M9 =>
  zl (z_wI M9 a 9 (M9.1 r0 9)) fun M10 =>
  zl (z_wI M10 a 10 (M10.1 r0 10)) fun M11 =>
  zl (z_wI M11 a 11 (M11.1 r0 11)) fun M12 =>
  zl (z_wI M12 a 12 (M12.1 r0 12)) fun M13 =>
  if (M13.1 r0 13) = 0 ∨ (M13.1 r0 13) = 1 then
  zl (z_wI M13 a 13 (M13.1 r0 13)) fun M14 =>
  zl (z_wI M14 a 14 (M14.1 r0 14)) fun M15 =>
  zl (z_wI M15 a 15 (M15.1 r0 15)) fun M16 =>
  zl (z_wI M16 a 16 (M16.1 r0 16)) fun M17 =>
  zl (z_wI M17 a 17 (M17.1 r0 17)) fun M18 =>
  zl (z_wI M18 a 18 (M18.1 r0 18)) fun M19 =>
  some M19
  else none
def F_Desk_copyFrom_B104 (a : Nat) (rec104 : Nat → Int32 → z_Mem → Option (z_Mem)) (u1 : Nat) (v2 : Int32) (M : z_Mem) : Option (z_Mem) :=
  if (M.1 a 4) ≤ v2 then
    some M
  else
    if 24 ≤ v2 then
      some M
    else
      if z_inb v2 24 then
      zl (a + 16 + 1 * v2.toNatClampNeg) fun t14 =>
      if z_inb v2 24 then
      zl (u1 + 16 + 1 * v2.toNatClampNeg) fun t16 =>
      zb (F_Ride_copyFrom t14 t16 M) fun M18 =>
      zl (v2 + 1) fun x19 =>
      rec104 u1 x19 M18
      else none
      else none
def F_Desk_copyFrom_L104 (a : Nat) : Nat → Nat → Int32 → z_Mem → Option (z_Mem)
  | 0, _, _, _ => none
  | n9 + 1, u1, v2, M => F_Desk_copyFrom_B104 a (F_Desk_copyFrom_L104 a n9) u1 v2 M
def F_Desk_copyFrom_J102 (a : Nat) (u1 : Nat) (M : z_Mem) : Option (z_Mem) :=
  F_Desk_copyFrom_L104 a 10000 u1 0 M
def F_Desk_copyFrom_B68 (a : Nat) (rec68 : Nat → Int32 → z_Mem → Option (z_Mem)) (u1 : Nat) (v2 : Int32) (M : z_Mem) : Option (z_Mem) :=
  if (M.1 a 3) ≤ v2 then
    F_Desk_copyFrom_J102 a u1 M
  else
    if 4 ≤ v2 then
      F_Desk_copyFrom_J102 a u1 M
    else
      if z_inb v2 4 then
      zl (a + 4 + 3 * v2.toNatClampNeg) fun t8 =>
      if z_inb v2 4 then
      zl (u1 + 4 + 3 * v2.toNatClampNeg) fun t10 =>
      zb (F_Taxi_copyFrom t8 t10 M) fun M12 =>
      zl (v2 + 1) fun x13 =>
      rec68 u1 x13 M12
      else none
      else none
def F_Desk_copyFrom_L68 (a : Nat) : Nat → Nat → Int32 → z_Mem → Option (z_Mem)
  | 0, _, _, _ => none
  | n9 + 1, u1, v2, M => F_Desk_copyFrom_B68 a (F_Desk_copyFrom_L68 a n9) u1 v2 M
def F_Desk_copyFrom_B42 (a : Nat) (rec42 : Nat → Int32 → z_Mem → Option (z_Mem)) (u1 : Nat) (v2 : Int32) (M : z_Mem) : Option (z_Mem) :=
  if 10 ≤ v2 then
    F_Desk_copyFrom_L68 a 10000 u1 0 M
  else
    if z_inb v2 10 then
    if z_inb v2 10 then
    zl (z_wI M (a + 1) v2.toNatClampNeg (M.1 (u1 + 1) v2.toNatClampNeg)) fun M6 =>
    zl (v2 + 1) fun x7 =>
    rec42 u1 x7 M6
    else none
    else none
def F_Desk_copyFrom_L42 (a : Nat) : Nat → Nat → Int32 → z_Mem → Option (z_Mem)
  | 0, _, _, _ => none
  | n9 + 1, u1, v2, M => F_Desk_copyFrom_B42 a (F_Desk_copyFrom_L42 a n9) u1 v2 M
def F_Desk_copyFrom (a : Nat) (r0 : Nat) (M : z_Mem) : Option (z_Mem) :=
  zl (z_wI M a 0 (M.1 r0 0)) fun M1 =>
  zl (z_wI M1 a 1 (M1.1 r0 1)) fun M2 =>
  zl (z_wI M2 a 2 (M2.1 r0 2)) fun M3 =>
  zl (z_wI M3 a 3 (M3.1 r0 3)) fun M4 =>
  zl (z_wI M4 a 4 (M4.1 r0 4)) fun M5 =>
  F_Desk_copyFrom_L42 a 10000 r0 0 M5
def F_Desk_ruleValue (a : Nat) (p0 : Int32) (M : z_Mem) : Option (Int32) :=
  if p0 < 0 then
    some (0)
  else
    if 10 ≤ p0 then
      some (0)
    else
      if z_inb p0 10 then
      some ((M.1 (a + 1) p0.toNatClampNeg))
      else none
def F_Desk_changeRule (a : Nat) (p0 : Int32) (p1 : Int32) (M : z_Mem) : Option (z_Mem) :=
  if p0 < 0 then
    some M
  else
    if 10 ≤ p0 then
      some M
    else
      if z_inb p0 10 then
      zl (z_wI M (a + 1) p0.toNatClampNeg p1) fun M1 =>
      some M1
      else none
def F_Desk_hasTaxi (a : Nat) (p0 : Int32) (M : z_Mem) : Option (Int32) :=
  if p0 < 0 then
    some (0)
  else
    if (M.1 a 3) ≤ p0 then
      some (0)
    else
      if 4 ≤ p0 then
        some (0)
      else
        some (1)
def F_Desk_countInState_B4 (a : Nat) (rec4 : Int32 → Int32 → Int32 → z_Mem → Option (Int32)) (v1 : Int32) (v2 : Int32) (v3 : Int32) (M : z_Mem) : Option (Int32) :=
  if (M.1 a 4) ≤ v3 then
    some (v2)
  else
    if 24 ≤ v3 then
      some (v2)
    else
      if z_inb v3 24 then
      zl (a + 16 + 1 * v3.toNatClampNeg) fun t1 =>
      if (M.1 t1 0) = v1 then
        zl (v2 + 1) fun x4 =>
        zl (v3 + 1) fun x5 =>
        rec4 v1 x4 x5 M
      else
        zl (v3 + 1) fun x3 =>
        rec4 v1 v2 x3 M
      else none
def F_Desk_countInState_L4 (a : Nat) : Nat → Int32 → Int32 → Int32 → z_Mem → Option (Int32)
  | 0, _, _, _, _ => none
  | n9 + 1, v1, v2, v3, M => F_Desk_countInState_B4 a (F_Desk_countInState_L4 a n9) v1 v2 v3 M
def F_Desk_countInState (a : Nat) (p0 : Int32) (M : z_Mem) : Option (Int32) :=
  F_Desk_countInState_L4 a 10000 p0 0 0 M
def F_Desk_stopsInAllRoutes_B4 (a : Nat) (rec4 : Int32 → Int32 → z_Mem → Option (Int32)) (v1 : Int32) (v2 : Int32) (M : z_Mem) : Option (Int32) :=
  if (M.1 a 3) ≤ v2 then
    some (v1)
  else
    if 4 ≤ v2 then
      some (v1)
    else
      if z_inb v2 4 then
      zl (a + 4 + 3 * v2.toNatClampNeg) fun t1 =>
      zl ((v1 + (M.1 t1 7))) fun x3 =>
      zl (v2 + 1) fun x4 =>
      rec4 x3 x4 M
      else none
def F_Desk_stopsInAllRoutes_L4 (a : Nat) : Nat → Int32 → Int32 → z_Mem → Option (Int32)
  | 0, _, _, _ => none
  | n9 + 1, v1, v2, M => F_Desk_stopsInAllRoutes_B4 a (F_Desk_stopsInAllRoutes_L4 a n9) v1 v2 M
def F_Desk_stopsInAllRoutes (a : Nat) (M : z_Mem) : Option (Int32) :=
  F_Desk_stopsInAllRoutes_L4 a 10000 0 0 M
def F_Taxi_partyAt (a : Nat) (p0 : Int32) (M : z_Mem) : Option (Int32) :=
  if p0 < 0 then
    some ((-1))
  else
    if (M.1 a 8) ≤ p0 then
      some ((-1))
    else
      if 6 ≤ p0 then
        some ((-1))
      else
        if z_inb p0 6 then
        some ((M.1 (a + 2) p0.toNatClampNeg))
        else none
def F_Desk_rideAt_J19 (a : Nat) (s0 : Int32) (M : z_Mem) : Option (Nat) :=
  if z_inb s0 24 then
  zl (a + 16 + 1 * s0.toNatClampNeg) fun t1 =>
  some (t1)
  else none
def F_Desk_rideAt_J18 (a : Nat) (M : z_Mem) : Option (Nat) :=
  F_Desk_rideAt_J19 a 0 M
def F_Desk_rideAt (a : Nat) (p0 : Int32) (M : z_Mem) : Option (Nat) :=
  if p0 < 0 then
    F_Desk_rideAt_J18 a M
  else
    if 24 ≤ p0 then
      F_Desk_rideAt_J18 a M
    else
      F_Desk_rideAt_J19 a p0 M
def F_Desk_personsAboard_B4 (a : Nat) (rec4 : Nat → Int32 → Int32 → z_Mem → Option (Int32)) (u1 : Nat) (v2 : Int32) (v3 : Int32) (M : z_Mem) : Option (Int32) :=
  if (M.1 u1 8) ≤ v3 then
    some (v2)
  else
    zb (F_Taxi_partyAt u1 v3 M) fun x1 =>
    zb (F_Desk_rideAt a x1 M) fun t2 =>
    zl ((v2 + (M.1 t2 3))) fun x4 =>
    zl (v3 + 1) fun x5 =>
    rec4 u1 x4 x5 M
def F_Desk_personsAboard_L4 (a : Nat) : Nat → Nat → Int32 → Int32 → z_Mem → Option (Int32)
  | 0, _, _, _, _ => none
  | n9 + 1, u1, v2, v3, M => F_Desk_personsAboard_B4 a (F_Desk_personsAboard_L4 a n9) u1 v2 v3 M
def F_Desk_personsAboard (a : Nat) (r0 : Nat) (M : z_Mem) : Option (Int32) :=
  F_Desk_personsAboard_L4 a 10000 r0 0 0 M
def F_Desk_pickupOf (p0 : Int32) (M : z_Mem) : Option (Int32) :=
  some (((p0 * 2) + 1))
def F_Desk_dropOf (p0 : Int32) (M : z_Mem) : Option (Int32) :=
  some ((p0 * 2))
def F_Desk_isPickup (p0 : Int32) (M : z_Mem) : Option (Int32) :=
  if (p0 &&& 1) = 1 then
    some (1)
  else
    some (0)
def F_Desk_rideNumber (p0 : Int32) (M : z_Mem) : Option (Int32) :=
  some ((p0 >>> (1 &&& 31)))
def F_Desk_zoneOfStop (a : Nat) (p0 : Int32) (M : z_Mem) : Option (Int32) :=
  zb (F_Desk_rideNumber p0 M) fun x1 =>
  zb (F_Desk_rideAt a x1 M) fun t2 =>
  zb (F_Desk_isPickup p0 M) fun x4 =>
  if x4 = 0 then
    some ((M.1 t2 2))
  else
    some ((M.1 t2 1))
def F_History_clear (o : Nat) (M : z_Mem) : Option (z_Mem) :=
  zl (z_wI M (o + 45) 0 0) fun M1 =>
  zl (z_wI M1 (o + 45) 1 0) fun M2 =>
  some M2
def F_History_note_J21 (o : Nat) (u1 : Nat) (M : z_Mem) : Option (z_Mem) :=
  if z_inb (M.1 (o + 45) 1) 10 then
  zl (o + 47 + 40 * (M.1 (o + 45) 1).toNatClampNeg) fun t2 =>
  zb (F_Desk_copyFrom t2 u1 M) fun M4 =>
  zl (z_wI M4 (o + 45) 1 (((M4.1 (o + 45) 1) + 1) - ((M4.1 (o + 45) 1) + 1) / 10 * 10)) fun M5 =>
  if 10 ≤ (M5.1 (o + 45) 0) then
    some M5
  else
    zl (z_wI M5 (o + 45) 0 ((M5.1 (o + 45) 0) + 1)) fun M6 =>
    some M6
  else none
def F_History_note_J16 (o : Nat) (u1 : Nat) (M : z_Mem) : Option (z_Mem) :=
  zl (z_wI M (o + 45) 1 0) fun M1 =>
  F_History_note_J21 o u1 M1
def F_History_note (o : Nat) (r0 : Nat) (M : z_Mem) : Option (z_Mem) :=
  if (M.1 (o + 45) 1) < 0 then
    F_History_note_J16 o r0 M
  else
    if (M.1 (o + 45) 1) < 10 then
      F_History_note_J21 o r0 M
    else
      F_History_note_J16 o r0 M
def F_Taxi_stopAt (a : Nat) (p0 : Int32) (M : z_Mem) : Option (Int32) :=
  if p0 < 0 then
    some ((-1))
  else
    if (M.1 a 7) ≤ p0 then
      some ((-1))
    else
      if 12 ≤ p0 then
        some ((-1))
      else
        if z_inb p0 12 then
        some ((M.1 (a + 1) p0.toNatClampNeg))
        else none
def F_Plan_append (o : Nat) (p0 : Int32) (M : z_Mem) : Option (z_Mem) :=
  if (M.1 (o + 487) 3) < 0 then
    some M
  else
    if 12 ≤ (M.1 (o + 487) 3) then
      some M
    else
      if z_inb (M.1 (o + 487) 3) 12 then
      zl (z_wI M (o + 488) (M.1 (o + 487) 3).toNatClampNeg p0) fun M1 =>
      zl (z_wI M1 (o + 487) 3 ((M1.1 (o + 487) 3) + 1)) fun M2 =>
      some M2
      else none
def F_Town_hasPlaces (p0 : Int32) (p1 : Int32) (M : z_Mem) : Option (Int32) :=
  if p0 < 0 then
    some (0)
  else
    if 8 ≤ p0 then
      some (0)
    else
      if p1 < 0 then
        some (0)
      else
        if 8 ≤ p1 then
          some (0)
        else
          some (1)
def F_Town_wayMinutes (a : Nat) (p0 : Int32) (p1 : Int32) (M : z_Mem) : Option (Int32) :=
  zb (F_Town_hasPlaces p0 p1 M) fun x1 =>
  if x1 = 0 then
    some ((-1))
  else
    if z_inb ((p0 * 8) + p1) 64 then
    some ((M.1 (a + 1) ((p0 * 8) + p1).toNatClampNeg))
    else none
def F_Plan_hasPlace (o : Nat) (p0 : Int32) (M : z_Mem) : Option (Int32) :=
  if p0 < 0 then
    some (0)
  else
    if (M.1 (o + 487) 3) ≤ p0 then
      some (0)
    else
      if 12 ≤ p0 then
        some (0)
      else
        some (1)
def F_Plan_leavingTime_J20 (o : Nat) (u1 : Nat) (M : z_Mem) : Option (Int32) :=
  some ((M.1 u1 6))
def F_Plan_leavingTime_J44 (o : Nat) (v2 : Int32) (s0 : Int32) (M : z_Mem) : Option (Int32) :=
  if z_inb v2 12 then
  zb (F_Desk_isPickup (M.1 (o + 488) v2.toNatClampNeg) M) fun x3 =>
  if x3 = 0 then
    some (s0)
  else
    if z_inb v2 12 then
    zb (F_Desk_rideNumber (M.1 (o + 488) v2.toNatClampNeg) M) fun x4 =>
    zb (F_Desk_rideAt (o + 5) x4 M) fun t5 =>
    if z_inb v2 12 then
    zl (if s0 < ((M.1 t5 4) - (M.1 (o + 489) v2.toNatClampNeg)) then ((M.1 t5 4) - (M.1 (o + 489) v2.toNatClampNeg)) else s0) fun x7 =>
    some (x7)
    else none
    else none
  else none
def F_Plan_leavingTime_J25 (o : Nat) (v2 : Int32) (v3 : Int32) (M : z_Mem) : Option (Int32) :=
  if v2 = 0 then
    zl (if v3 < (M.1 (o + 5) 0) then (M.1 (o + 5) 0) else v3) fun x2 =>
    F_Plan_leavingTime_J44 o v2 x2 M
  else
    F_Plan_leavingTime_J44 o v2 v3 M
def F_Plan_leavingTime (o : Nat) (r0 : Nat) (p1 : Int32) (p2 : Int32) (M : z_Mem) : Option (Int32) :=
  zb (F_Plan_hasPlace o p1 M) fun x1 =>
  if x1 = 0 then
    F_Plan_leavingTime_J20 o r0 M
  else
    if p1 = 0 then
      if (M.1 r0 6) = (-1) then
        F_Plan_leavingTime_J25 o p1 p2 M
      else
        F_Plan_leavingTime_J20 o r0 M
    else
      F_Plan_leavingTime_J25 o p1 p2 M
def F_Plan_stayAt_J43 (o : Nat) (s0 : Int32) (s1 : Nat) (M : z_Mem) : Option (Int32) :=
  zb (F_Desk_ruleValue s1 s0 M) fun x5 =>
  some (x5)
def F_Plan_stayAt_J29 (o : Nat) (s0 : Int32) (M : z_Mem) : Option (Int32) :=
  if s0 = 0 then
    F_Plan_stayAt_J43 o 1 (o + 5) M
  else
    F_Plan_stayAt_J43 o 3 (o + 5) M
def F_Plan_stayAt_J28 (o : Nat) (M : z_Mem) : Option (Int32) :=
  F_Plan_stayAt_J29 o 0 M
def F_Plan_stayAt (o : Nat) (p0 : Int32) (M : z_Mem) : Option (Int32) :=
  zb (F_Desk_isPickup p0 M) fun x1 =>
  if x1 = 0 then
    F_Plan_stayAt_J28 o M
  else
    zb (F_Desk_rideNumber p0 M) fun x2 =>
    zb (F_Desk_rideAt (o + 5) x2 M) fun t3 =>
    if (M.1 t3 13) = 0 then
      F_Plan_stayAt_J28 o M
    else
      F_Plan_stayAt_J29 o 1 M
def F_Plan_planTimes_J86 (o : Nat) (rec23 : Nat → Int32 → Int32 → Int32 → z_Mem → Option (z_Mem)) (u1 : Nat) (v3 : Int32) (v4 : Int32) (v5 : Int32) (v6 : Int32) (s0 : Int32) (M : z_Mem) : Option (z_Mem) :=
  if s0 = 0 ∨ s0 = 1 then
  zl (z_wI M (o + 487) 4 s0) fun M7 =>
  zl (if v6 < 0 then 0 else v6) fun x8 =>
  if z_inb v4 12 then
  zl (z_wI M7 (o + 489) v4.toNatClampNeg x8) fun M9 =>
  zb (F_Plan_leavingTime o u1 v4 v3 M9) fun x10 =>
  if z_inb v4 12 then
  zl (z_wI M9 (o + 490) v4.toNatClampNeg x10) fun M11 =>
  if z_inb v4 12 then
  if z_inb v4 12 then
  if z_inb v4 12 then
  zl (z_wI M11 (o + 491) v4.toNatClampNeg ((M11.1 (o + 490) v4.toNatClampNeg) + (M11.1 (o + 489) v4.toNatClampNeg))) fun M12 =>
  if z_inb v4 12 then
  if z_inb v4 12 then
  zb (F_Plan_stayAt o (M12.1 (o + 488) v4.toNatClampNeg) M12) fun x13 =>
  if z_inb v4 12 then
  zl (z_wI M12 (o + 492) v4.toNatClampNeg ((M12.1 (o + 491) v4.toNatClampNeg) + x13)) fun M14 =>
  if z_inb v4 12 then
  zl (z_wI M14 (o + 487) 0 ((M14.1 (o + 487) 0) + (M14.1 (o + 489) v4.toNatClampNeg))) fun M15 =>
  if z_inb v4 12 then
  zl ((M15.1 (o + 492) v4.toNatClampNeg)) fun x16 =>
  zl (v4 + 1) fun x17 =>
  rec23 u1 v5 x16 x17 M15
  else none
  else none
  else none
  else none
  else none
  else none
  else none
  else none
  else none
  else none
  else none
def F_Plan_planTimes_J85 (o : Nat) (rec23 : Nat → Int32 → Int32 → Int32 → z_Mem → Option (z_Mem)) (u1 : Nat) (v3 : Int32) (v4 : Int32) (v5 : Int32) (v6 : Int32) (M : z_Mem) : Option (z_Mem) :=
  F_Plan_planTimes_J86 o rec23 u1 v3 v4 v5 v6 0 M
def F_Plan_planTimes_B23 (o : Nat) (rec23 : Nat → Int32 → Int32 → Int32 → z_Mem → Option (z_Mem)) (u1 : Nat) (v2 : Int32) (v3 : Int32) (v4 : Int32) (M : z_Mem) : Option (z_Mem) :=
  if (M.1 (o + 487) 3) ≤ v4 then
    some M
  else
    if 12 ≤ v4 then
      some M
    else
      if z_inb v4 12 then
      zb (F_Desk_zoneOfStop (o + 5) (M.1 (o + 488) v4.toNatClampNeg) M) fun x5 =>
      zb (F_Town_wayMinutes (o + 3) v2 x5 M) fun x6 =>
      if (M.1 (o + 487) 4) = 0 then
        F_Plan_planTimes_J85 o rec23 u1 v3 v4 x5 x6 M
      else
        if x6 = (-1) then
          F_Plan_planTimes_J85 o rec23 u1 v3 v4 x5 x6 M
        else
          F_Plan_planTimes_J86 o rec23 u1 v3 v4 x5 x6 1 M
      else none
def F_Plan_planTimes_L23 (o : Nat) : Nat → Nat → Int32 → Int32 → Int32 → z_Mem → Option (z_Mem)
  | 0, _, _, _, _, _ => none
  | n9 + 1, u1, v2, v3, v4, M => F_Plan_planTimes_B23 o (F_Plan_planTimes_L23 o n9) u1 v2 v3 v4 M
def F_Plan_planTimes (o : Nat) (r0 : Nat) (M : z_Mem) : Option (z_Mem) :=
  zl ((M.1 r0 1)) fun x1 =>
  zl ((M.1 r0 2)) fun x2 =>
  zl (z_wI M (o + 487) 0 0) fun M3 =>
  zl (z_wI M3 (o + 487) 4 1) fun M4 =>
  F_Plan_planTimes_L23 o 10000 r0 x1 x2 0 M4
def F_Plan_planRoute_B7 (o : Nat) (rec7 : Nat → Int32 → z_Mem → Option (z_Mem)) (u1 : Nat) (v2 : Int32) (M : z_Mem) : Option (z_Mem) :=
  if (M.1 u1 7) ≤ v2 then
    zb (F_Plan_planTimes o u1 M) fun M2 =>
    some M2
  else
    zb (F_Taxi_stopAt u1 v2 M) fun x3 =>
    zb (F_Plan_append o x3 M) fun M4 =>
    zl (v2 + 1) fun x5 =>
    rec7 u1 x5 M4
def F_Plan_planRoute_L7 (o : Nat) : Nat → Nat → Int32 → z_Mem → Option (z_Mem)
  | 0, _, _, _ => none
  | n9 + 1, u1, v2, M => F_Plan_planRoute_B7 o (F_Plan_planRoute_L7 o n9) u1 v2 M
def F_Plan_planRoute (o : Nat) (r0 : Nat) (M : z_Mem) : Option (z_Mem) :=
  zl (z_wI M (o + 487) 3 0) fun M1 =>
  F_Plan_planRoute_L7 o 10000 r0 0 M1
def F_Plan_planInsertion_B11 (o : Nat) (rec11 : Nat → Int32 → Int32 → Int32 → Int32 → Int32 → z_Mem → Option (z_Mem)) (u1 : Nat) (v2 : Int32) (v3 : Int32) (v4 : Int32) (v5 : Int32) (v6 : Int32) (M : z_Mem) : Option (z_Mem) :=
  if ((M.1 u1 7) + 2) ≤ v6 then
    zb (F_Plan_planTimes o u1 M) fun M2 =>
    some M2
  else
    if v6 = v3 then
      zb (F_Desk_pickupOf v2 M) fun x10 =>
      zb (F_Plan_append o x10 M) fun M11 =>
      zl (v6 + 1) fun x12 =>
      rec11 u1 v2 v3 v4 v5 x12 M11
    else
      if v6 = v4 then
        zb (F_Desk_dropOf v2 M) fun x7 =>
        zb (F_Plan_append o x7 M) fun M8 =>
        zl (v6 + 1) fun x9 =>
        rec11 u1 v2 v3 v4 v5 x9 M8
      else
        zb (F_Taxi_stopAt u1 v5 M) fun x3 =>
        zb (F_Plan_append o x3 M) fun M4 =>
        zl (v5 + 1) fun x5 =>
        zl (v6 + 1) fun x6 =>
        rec11 u1 v2 v3 v4 x5 x6 M4
def F_Plan_planInsertion_L11 (o : Nat) : Nat → Nat → Int32 → Int32 → Int32 → Int32 → Int32 → z_Mem → Option (z_Mem)
  | 0, _, _, _, _, _, _, _ => none
  | n9 + 1, u1, v2, v3, v4, v5, v6, M => F_Plan_planInsertion_B11 o (F_Plan_planInsertion_L11 o n9) u1 v2 v3 v4 v5 v6 M
def F_Plan_planInsertion (o : Nat) (r0 : Nat) (p1 : Int32) (p2 : Int32) (p3 : Int32) (M : z_Mem) : Option (z_Mem) :=
  zl (z_wI M (o + 487) 3 0) fun M1 =>
  F_Plan_planInsertion_L11 o 10000 r0 p1 p2 p3 0 0 M1
def F_Plan_arrivalAt (o : Nat) (p0 : Int32) (M : z_Mem) : Option (Int32) :=
  zb (F_Plan_hasPlace o p0 M) fun x1 =>
  if x1 = 0 then
    some ((-1))
  else
    if z_inb p0 12 then
    some ((M.1 (o + 491) p0.toNatClampNeg))
    else none
def F_Insertion_isAsGoodAs_J24 (o : Nat) (M : z_Mem) : Option (Int32) :=
  some (1)
def F_Insertion_isAsGoodAs (o : Nat) (p0 : Int32) (p1 : Int32) (M : z_Mem) : Option (Int32) :=
  if (M.1 (o + 494) 0) < p0 then
    F_Insertion_isAsGoodAs_J24 o M
  else
    if (M.1 (o + 494) 0) = p0 then
      if p1 < (M.1 (o + 494) 1) then
        some (0)
      else
        F_Insertion_isAsGoodAs_J24 o M
    else
      some (0)
def F_Plan_doneAt (o : Nat) (p0 : Int32) (M : z_Mem) : Option (Int32) :=
  zb (F_Plan_hasPlace o p0 M) fun x1 =>
  if x1 = 0 then
    some ((-1))
  else
    if z_inb p0 12 then
    some ((M.1 (o + 492) p0.toNatClampNeg))
    else none
def F_Plan_stintBehind (o : Nat) (p0 : Int32) (p1 : Int32) (p2 : Int32) (p3 : Int32) (M : z_Mem) : Option (Int32) :=
  zb (F_Desk_ruleValue (o + 5) 6 M) fun x1 =>
  if (p2 - p1) < x1 then
    some ((p0 + p3))
  else
    some (p3)
def F_Plan_isInTime_J107 (o : Nat) (v1 : Int32) (u3 : Nat) (s0 : Int32) (M : z_Mem) : Option (Int32 × z_Mem) :=
  if z_inb v1 12 then
  if (s0 + (M.1 u3 8)) < (M.1 (o + 491) v1.toNatClampNeg) then
    some (0, M)
  else
    some (1, M)
  else none
def F_Plan_isInTime_J21 (o : Nat) (v1 : Int32) (s0 : Int32) (M : z_Mem) : Option (Int32 × z_Mem) :=
  if s0 < 0 then
    some (0, M)
  else
    if s0 < 24 then
      zb (F_Desk_rideAt (o + 5) s0 M) fun t3 =>
      if z_inb v1 12 then
      zb (F_Desk_isPickup (M.1 (o + 488) v1.toNatClampNeg) M) fun x5 =>
      if x5 = 0 then
        if (M.1 t3 0) = 2 then
          F_Plan_isInTime_J107 o v1 t3 (M.1 t3 10) M
        else
          if z_inb s0 24 then
          F_Plan_isInTime_J107 o v1 t3 (M.1 (o + 493) s0.toNatClampNeg) M
          else none
      else
        if z_inb v1 12 then
        if z_inb s0 24 then
        zl (z_wI M (o + 493) s0.toNatClampNeg (M.1 (o + 492) v1.toNatClampNeg)) fun M6 =>
        if z_inb v1 12 then
        if (M6.1 t3 5) < (M6.1 (o + 491) v1.toNatClampNeg) then
          some (0, M6)
        else
          some (1, M6)
        else none
        else none
        else none
      else none
    else
      some (0, M)
def F_Plan_isInTime (o : Nat) (p0 : Int32) (M : z_Mem) : Option (Int32 × z_Mem) :=
  zb (F_Plan_hasPlace o p0 M) fun x1 =>
  if x1 = 0 then
    F_Plan_isInTime_J21 o p0 (-1) M
  else
    if z_inb p0 12 then
    zb (F_Desk_rideNumber (M.1 (o + 488) p0.toNatClampNeg) M) fun x2 =>
    F_Plan_isInTime_J21 o p0 x2 M
    else none
def F_Plan_personsChange (o : Nat) (p0 : Int32) (M : z_Mem) : Option (Int32) :=
  zb (F_Desk_rideNumber p0 M) fun x1 =>
  zb (F_Desk_rideAt (o + 5) x1 M) fun t2 =>
  zb (F_Desk_isPickup p0 M) fun x4 =>
  if x4 = 0 then
    some ((-(M.1 t2 3)))
  else
    if (M.1 t2 13) = 0 then
      some ((M.1 t2 3))
    else
      some (0)
def F_Plan_keepsLimits_B58 (o : Nat) (rec58 : Nat → Int32 → Int32 → Int32 → Int32 → z_Mem → Option (Int32 × z_Mem)) (u1 : Nat) (v2 : Int32) (v3 : Int32) (v4 : Int32) (v5 : Int32) (M : z_Mem) : Option (Int32 × z_Mem) :=
  if (M.1 (o + 487) 3) ≤ v5 then
    some (1, M)
  else
    if 12 ≤ v5 then
      some (1, M)
    else
      if z_inb v5 12 then
      if z_inb v5 12 then
      zb (F_Plan_stintBehind o v3 v4 (M.1 (o + 490) v5.toNatClampNeg) (M.1 (o + 489) v5.toNatClampNeg) M) fun x5 =>
      if (M.1 u1 0) < v2 then
        some (0, M)
      else
        zb (F_Desk_ruleValue (o + 5) 5 M) fun x6 =>
        if x6 < x5 then
          some (0, M)
        else
          zb2 (F_Plan_isInTime o v5 M) fun x8 M7 =>
          if x8 = 0 then
            some (0, M7)
          else
            if z_inb v5 12 then
            zb (F_Plan_personsChange o (M7.1 (o + 488) v5.toNatClampNeg) M7) fun x9 =>
            zl ((v2 + x9)) fun x10 =>
            if z_inb v5 12 then
            zl ((M7.1 (o + 492) v5.toNatClampNeg)) fun x11 =>
            zl (v5 + 1) fun x12 =>
            rec58 u1 x10 x5 x11 x12 M7
            else none
            else none
      else none
      else none
def F_Plan_keepsLimits_L58 (o : Nat) : Nat → Nat → Int32 → Int32 → Int32 → Int32 → z_Mem → Option (Int32 × z_Mem)
  | 0, _, _, _, _, _, _ => none
  | n9 + 1, u1, v2, v3, v4, v5, M => F_Plan_keepsLimits_B58 o (F_Plan_keepsLimits_L58 o n9) u1 v2 v3 v4 v5 M
def F_Plan_keepsLimits (o : Nat) (r0 : Nat) (M : z_Mem) : Option (Int32 × z_Mem) :=
  if (M.1 (o + 487) 3) = 0 then
    some (1, M)
  else
    if (M.1 (o + 487) 4) = 0 then
      some (0, M)
    else
      zb (F_Plan_doneAt o ((M.1 (o + 487) 3) - 1) M) fun x1 =>
      if x1 ≤ (M.1 r0 4) then
        zb (F_Desk_personsAboard (o + 5) r0 M) fun x2 =>
        zl ((M.1 r0 5)) fun x3 =>
        zl ((M.1 r0 2)) fun x4 =>
        F_Plan_keepsLimits_L58 o 10000 r0 x2 x3 x4 0 M
      else
        some (0, M)
def F_Insertion_keep (o : Nat) (p0 : Int32) (p1 : Int32) (p2 : Int32) (M : z_Mem) : Option (z_Mem) :=
  zl (z_wI M (o + 494) 0 p0) fun M1 =>
  zb (F_Plan_arrivalAt o p1 M1) fun x2 =>
  zl (z_wI M1 (o + 494) 1 x2) fun M3 =>
  zb (F_Plan_arrivalAt o p2 M3) fun x4 =>
  zl (z_wI M3 (o + 494) 2 x4) fun M5 =>
  zl (z_wI M5 (o + 494) 3 p1) fun M6 =>
  zl (z_wI M6 (o + 494) 4 p2) fun M7 =>
  some M7
def F_Insertion_findBest_J125 (o : Nat) (rec54 : Nat → Int32 → Int32 → Int32 → Int32 → Int32 → z_Mem → Option (Int32 × z_Mem)) (rec66 : Nat → Int32 → Int32 → Int32 → Int32 → Int32 → Int32 → z_Mem → Option (Int32 × z_Mem)) (u1 : Nat) (v2 : Int32) (v3 : Int32) (v4 : Int32) (v6 : Int32) (v7 : Int32) (v8 : Int32) (v9 : Int32) (s0 : Int32) (M : z_Mem) : Option (Int32 × z_Mem) :=
  if s0 = 0 then
    zl (v8 + 1) fun x11 =>
    rec66 u1 v2 v3 v4 v6 v7 x11 M
  else
    zb2 (F_Plan_keepsLimits o u1 M) fun x13 M12 =>
    if x13 = 0 then
      zl (v8 + 1) fun x14 =>
      rec66 u1 v2 v3 v4 v6 v7 x14 M12
    else
      zb (F_Insertion_keep o v9 v7 v8 M12) fun M15 =>
      zl (v8 + 1) fun x16 =>
      rec66 u1 v2 v3 v4 1 v7 x16 M15
def F_Insertion_findBest_J120 (o : Nat) (rec54 : Nat → Int32 → Int32 → Int32 → Int32 → Int32 → z_Mem → Option (Int32 × z_Mem)) (rec66 : Nat → Int32 → Int32 → Int32 → Int32 → Int32 → Int32 → z_Mem → Option (Int32 × z_Mem)) (u1 : Nat) (v2 : Int32) (v3 : Int32) (v4 : Int32) (v6 : Int32) (v7 : Int32) (v8 : Int32) (v9 : Int32) (M : z_Mem) : Option (Int32 × z_Mem) :=
  F_Insertion_findBest_J125 o rec54 rec66 u1 v2 v3 v4 v6 v7 v8 v9 1 M
def F_Insertion_findBest_B66 (o : Nat) (rec54 : Nat → Int32 → Int32 → Int32 → Int32 → Int32 → z_Mem → Option (Int32 × z_Mem)) (rec66 : Nat → Int32 → Int32 → Int32 → Int32 → Int32 → Int32 → z_Mem → Option (Int32 × z_Mem)) (u1 : Nat) (v2 : Int32) (v3 : Int32) (v4 : Int32) (v6 : Int32) (v7 : Int32) (v8 : Int32) (M : z_Mem) : Option (Int32 × z_Mem) :=
  if v3 < v8 then
    zl (v7 + 1) fun x6 =>
    rec54 u1 v2 v3 v4 v6 x6 M
  else
    zb (F_Plan_planInsertion o u1 v2 v7 v8 M) fun M7 =>
    zl (((M7.1 (o + 487) 0) - v4)) fun x8 =>
    if v6 = 0 then
      F_Insertion_findBest_J120 o rec54 rec66 u1 v2 v3 v4 v6 v7 v8 x8 M7
    else
      zb (F_Plan_arrivalAt o v7 M7) fun x9 =>
      zb (F_Insertion_isAsGoodAs o x8 x9 M7) fun x10 =>
      if x10 = 0 then
        F_Insertion_findBest_J120 o rec54 rec66 u1 v2 v3 v4 v6 v7 v8 x8 M7
      else
        F_Insertion_findBest_J125 o rec54 rec66 u1 v2 v3 v4 v6 v7 v8 x8 0 M7
def F_Insertion_findBest_L66 (o : Nat) (rec54 : Nat → Int32 → Int32 → Int32 → Int32 → Int32 → z_Mem → Option (Int32 × z_Mem)) : Nat → Nat → Int32 → Int32 → Int32 → Int32 → Int32 → Int32 → z_Mem → Option (Int32 × z_Mem)
  | 0, _, _, _, _, _, _, _, _ => none
  | n9 + 1, u1, v2, v3, v4, v6, v7, v8, M => F_Insertion_findBest_B66 o rec54 (F_Insertion_findBest_L66 o rec54 n9) u1 v2 v3 v4 v6 v7 v8 M
def F_Insertion_findBest_B54 (o : Nat) (rec54 : Nat → Int32 → Int32 → Int32 → Int32 → Int32 → z_Mem → Option (Int32 × z_Mem)) (u1 : Nat) (v2 : Int32) (v3 : Int32) (v4 : Int32) (v6 : Int32) (v7 : Int32) (M : z_Mem) : Option (Int32 × z_Mem) :=
  if v3 ≤ v7 then
    if v6 = 0 ∨ v6 = 1 then some (v6, M) else none
  else
    zl ((v7 + 1)) fun x5 =>
    F_Insertion_findBest_L66 o rec54 10000 u1 v2 v3 v4 v6 v7 x5 M
def F_Insertion_findBest_L54 (o : Nat) : Nat → Nat → Int32 → Int32 → Int32 → Int32 → Int32 → z_Mem → Option (Int32 × z_Mem)
  | 0, _, _, _, _, _, _, _ => none
  | n9 + 1, u1, v2, v3, v4, v6, v7, M => F_Insertion_findBest_B54 o (F_Insertion_findBest_L54 o n9) u1 v2 v3 v4 v6 v7 M
def F_Insertion_findBest_J45 (o : Nat) (u1 : Nat) (v2 : Int32) (v3 : Int32) (v4 : Int32) (s0 : Int32) (M : z_Mem) : Option (Int32 × z_Mem) :=
  F_Insertion_findBest_L54 o 10000 u1 v2 v3 v4 0 s0 M
def F_Insertion_findBest (o : Nat) (r0 : Nat) (p1 : Int32) (M : z_Mem) : Option (Int32 × z_Mem) :=
  zl (((M.1 r0 7) + 1)) fun x1 =>
  if x1 < 12 then
    zb (F_Plan_planRoute o r0 M) fun M2 =>
    zl ((M2.1 (o + 487) 0)) fun x3 =>
    if (M2.1 r0 6) = (-1) then
      F_Insertion_findBest_J45 o r0 p1 x1 x3 0 M2
    else
      F_Insertion_findBest_J45 o r0 p1 x1 x3 1 M2
  else
    some (0, M)
def F_Insertion_isBetterThan_J24 (o : Nat) (M : z_Mem) : Option (Int32) :=
  some (1)
def F_Insertion_isBetterThan (o : Nat) (p0 : Int32) (p1 : Int32) (M : z_Mem) : Option (Int32) :=
  if (M.1 (o + 494) 0) < p0 then
    F_Insertion_isBetterThan_J24 o M
  else
    if (M.1 (o + 494) 0) = p0 then
      if p1 ≤ (M.1 (o + 494) 1) then
        some (0)
      else
        F_Insertion_isBetterThan_J24 o M
    else
      some (0)
def F_Plan_wayTo (o : Nat) (p0 : Int32) (M : z_Mem) : Option (Int32) :=
  zb (F_Plan_hasPlace o p0 M) fun x1 =>
  if x1 = 0 then
    some ((-1))
  else
    if z_inb p0 12 then
    some ((M.1 (o + 489) p0.toNatClampNeg))
    else none
def F_Plan_leavingAt (o : Nat) (p0 : Int32) (M : z_Mem) : Option (Int32) :=
  zb (F_Plan_hasPlace o p0 M) fun x1 =>
  if x1 = 0 then
    some ((-1))
  else
    if z_inb p0 12 then
    some ((M.1 (o + 490) p0.toNatClampNeg))
    else none
def F_Ride_begin (a : Nat) (p0 : Int32) (p1 : Int32) (p2 : Int32) (p3 : Int32) (M : z_Mem) : Option (z_Mem) :=
  zl (z_wI M a 0 0) fun M1 =>
  zl (z_wI M1 a 1 p0) fun M2 =>
  zl (z_wI M2 a 2 p1) fun M3 =>
  zl (z_wI M3 a 3 p2) fun M4 =>
  zl (z_wI M4 a 6 p3) fun M5 =>
  zl (z_wI M5 a 9 (-1)) fun M6 =>
  zl (z_wI M6 a 10 (-1)) fun M7 =>
  zl (z_wI M7 a 11 (-1)) fun M8 =>
  zl (z_wI M8 a 12 0) fun M9 =>
  zl (z_wI M9 a 13 0) fun M10 =>
  zl (z_wI M10 a 14 (-1)) fun M11 =>
  zl (z_wI M11 a 15 (-1)) fun M12 =>
  zl (z_wI M12 a 16 (-1)) fun M13 =>
  zl (z_wI M13 a 17 (-1)) fun M14 =>
  zl (z_wI M14 a 18 (-1)) fun M15 =>
  some M15
def F_Ride_setDirect_J27 (a : Nat) (s0 : Int32) (M : z_Mem) : Option (z_Mem) :=
  zl (z_wI M a 8 s0) fun M2 =>
  some M2
def F_Ride_setDirect (a : Nat) (p0 : Int32) (M : z_Mem) : Option (z_Mem) :=
  zl (z_wI M a 7 p0) fun M1 =>
  if p0 = (-1) then
    F_Ride_setDirect_J27 a (-1) M1
  else
    F_Ride_setDirect_J27 a ((p0 * (100 + (M1.1 a 6))) / 100) M1
def F_Taxi_startShift (a : Nat) (p0 : Int32) (p1 : Int32) (p2 : Int32) (p3 : Int32) (M : z_Mem) : Option (z_Mem) :=
  zl (z_wI M a 0 p0) fun M1 =>
  zl (z_wI M1 a 1 p1) fun M2 =>
  zl (z_wI M2 a 2 p2) fun M3 =>
  zl (z_wI M3 a 3 p2) fun M4 =>
  zl (z_wI M4 a 4 p3) fun M5 =>
  zl (z_wI M5 a 5 0) fun M6 =>
  zl (z_wI M6 a 6 (-1)) fun M7 =>
  zl (z_wI M7 a 7 0) fun M8 =>
  zl (z_wI M8 a 8 0) fun M9 =>
  zl (z_wI M9 a 11 0) fun M10 =>
  zl (z_wI M10 a 12 0) fun M11 =>
  zl (z_wI M11 a 13 0) fun M12 =>
  zl (z_wI M12 a 14 0) fun M13 =>
  zl (z_wI M13 a 15 0) fun M14 =>
  zl (z_wI M14 a 16 0) fun M15 =>
  some M15
def F_Taxi_insertStop_B34 (a : Nat) (rec34 : Int32 → Int32 → Int32 → z_Mem → Option (z_Mem)) (v1 : Int32) (v2 : Int32) (v3 : Int32) (M : z_Mem) : Option (z_Mem) :=
  if v3 ≤ v1 then
    if z_inb v1 12 then
    zl (z_wI M (a + 1) v1.toNatClampNeg v2) fun M2 =>
    zl (z_wI M2 a 7 ((M2.1 a 7) + 1)) fun M3 =>
    some M3
    else none
  else
    if z_inb (v3 - 1) 12 then
    if z_inb v3 12 then
    zl (z_wI M (a + 1) v3.toNatClampNeg (M.1 (a + 1) (v3 - 1).toNatClampNeg)) fun M4 =>
    zl (v3 + (-1)) fun x5 =>
    rec34 v1 v2 x5 M4
    else none
    else none
def F_Taxi_insertStop_L34 (a : Nat) : Nat → Int32 → Int32 → Int32 → z_Mem → Option (z_Mem)
  | 0, _, _, _, _ => none
  | n9 + 1, v1, v2, v3, M => F_Taxi_insertStop_B34 a (F_Taxi_insertStop_L34 a n9) v1 v2 v3 M
def F_Taxi_insertStop (a : Nat) (p0 : Int32) (p1 : Int32) (M : z_Mem) : Option (z_Mem) :=
  if p0 < 0 then
    some M
  else
    if (M.1 a 7) < p0 then
      some M
    else
      if (M.1 a 7) < 0 then
        some M
      else
        if (M.1 a 7) < 12 then
          zl ((M.1 a 7)) fun x1 =>
          F_Taxi_insertStop_L34 a 10000 p0 p1 x1 M
        else
          some M
def F_Taxi_removeStop_J49 (a : Nat) (v2 : Int32) (M : z_Mem) : Option (z_Mem) :=
  zl (z_wI M a 7 v2) fun M5 =>
  some M5
def F_Taxi_removeStop_B4 (a : Nat) (rec4 : Int32 → Int32 → Int32 → z_Mem → Option (z_Mem)) (v1 : Int32) (v2 : Int32) (v3 : Int32) (M : z_Mem) : Option (z_Mem) :=
  if (M.1 a 7) ≤ v3 then
    F_Taxi_removeStop_J49 a v2 M
  else
    if 12 ≤ v3 then
      F_Taxi_removeStop_J49 a v2 M
    else
      if z_inb v3 12 then
      if (M.1 (a + 1) v3.toNatClampNeg) = v1 then
        zl (v3 + 1) fun x1 =>
        rec4 v1 v2 x1 M
      else
        if z_inb v3 12 then
        if z_inb v2 12 then
        zl (z_wI M (a + 1) v2.toNatClampNeg (M.1 (a + 1) v3.toNatClampNeg)) fun M2 =>
        zl (v2 + 1) fun x3 =>
        zl (v3 + 1) fun x4 =>
        rec4 v1 x3 x4 M2
        else none
        else none
      else none
def F_Taxi_removeStop_L4 (a : Nat) : Nat → Int32 → Int32 → Int32 → z_Mem → Option (z_Mem)
  | 0, _, _, _, _ => none
  | n9 + 1, v1, v2, v3, M => F_Taxi_removeStop_B4 a (F_Taxi_removeStop_L4 a n9) v1 v2 v3 M
def F_Taxi_removeStop (a : Nat) (p0 : Int32) (M : z_Mem) : Option (z_Mem) :=
  F_Taxi_removeStop_L4 a 10000 p0 0 0 M
def F_Taxi_takeAboard (a : Nat) (p0 : Int32) (M : z_Mem) : Option (z_Mem) :=
  if (M.1 a 8) < 0 then
    some M
  else
    if 6 ≤ (M.1 a 8) then
      some M
    else
      if z_inb (M.1 a 8) 6 then
      zl (z_wI M (a + 2) (M.1 a 8).toNatClampNeg p0) fun M1 =>
      zl (z_wI M1 a 8 ((M1.1 a 8) + 1)) fun M2 =>
      some M2
      else none
def F_Taxi_letOut_J49 (a : Nat) (v2 : Int32) (M : z_Mem) : Option (z_Mem) :=
  zl (z_wI M a 8 v2) fun M5 =>
  some M5
def F_Taxi_letOut_B4 (a : Nat) (rec4 : Int32 → Int32 → Int32 → z_Mem → Option (z_Mem)) (v1 : Int32) (v2 : Int32) (v3 : Int32) (M : z_Mem) : Option (z_Mem) :=
  if (M.1 a 8) ≤ v3 then
    F_Taxi_letOut_J49 a v2 M
  else
    if 6 ≤ v3 then
      F_Taxi_letOut_J49 a v2 M
    else
      if z_inb v3 6 then
      if (M.1 (a + 2) v3.toNatClampNeg) = v1 then
        zl (v3 + 1) fun x1 =>
        rec4 v1 v2 x1 M
      else
        if z_inb v3 6 then
        if z_inb v2 6 then
        zl (z_wI M (a + 2) v2.toNatClampNeg (M.1 (a + 2) v3.toNatClampNeg)) fun M2 =>
        zl (v2 + 1) fun x3 =>
        zl (v3 + 1) fun x4 =>
        rec4 v1 x3 x4 M2
        else none
        else none
      else none
def F_Taxi_letOut_L4 (a : Nat) : Nat → Int32 → Int32 → Int32 → z_Mem → Option (z_Mem)
  | 0, _, _, _, _ => none
  | n9 + 1, v1, v2, v3, M => F_Taxi_letOut_B4 a (F_Taxi_letOut_L4 a n9) v1 v2 v3 M
def F_Taxi_letOut (a : Nat) (p0 : Int32) (M : z_Mem) : Option (z_Mem) :=
  F_Taxi_letOut_L4 a 10000 p0 0 0 M
def F_Tokens_fail (o : Nat) (p0 : Int32) (M : z_Mem) : Option (z_Mem) :=
  if (M.1 (o + 499) 0) = 0 then
    if (M.1 (o + 499) 8) < 0 then
      some M
    else
      if 800 < (M.1 (o + 499) 8) then
        some M
      else
        zl (z_wI M (o + 499) 0 p0) fun M1 =>
        if z_inb (M1.1 (o + 499) 8) 801 then
        zl (z_wI M1 (o + 499) 1 (M1.1 (o + 501) (M1.1 (o + 499) 8).toNatClampNeg)) fun M2 =>
        some M2
        else none
  else
    some M
def F_Tokens_next_J85 (o : Nat) (s0 : Int32) (M : z_Mem) : Option (z_Mem) :=
  zl (z_wI M (o + 499) 10 s0) fun M3 =>
  some M3
def F_Tokens_next_J64 (o : Nat) (v1 : Int32) (s0 : Int32) (M : z_Mem) : Option (z_Mem) :=
  zl (z_wI M (o + 499) 9 s0) fun M2 =>
  if v1 = 0 then
    F_Tokens_next_J85 o 0 M2
  else
    if z_inb (M2.1 (o + 499) 8) 801 then
    F_Tokens_next_J85 o (M2.1 (o + 503) (M2.1 (o + 499) 8).toNatClampNeg) M2
    else none
def F_Tokens_next_J45 (o : Nat) (s0 : Int32) (M : z_Mem) : Option (z_Mem) :=
  if s0 = 0 then
    F_Tokens_next_J64 o s0 4 M
  else
    if z_inb (M.1 (o + 499) 8) 801 then
    F_Tokens_next_J64 o s0 (M.1 (o + 500) (M.1 (o + 499) 8).toNatClampNeg) M
    else none
def F_Tokens_next_J44 (o : Nat) (M : z_Mem) : Option (z_Mem) :=
  F_Tokens_next_J45 o 0 M
def F_Tokens_next_J23 (o : Nat) (M : z_Mem) : Option (z_Mem) :=
  if (M.1 (o + 499) 8) < 0 then
    F_Tokens_next_J44 o M
  else
    if 800 < (M.1 (o + 499) 8) then
      F_Tokens_next_J44 o M
    else
      F_Tokens_next_J45 o 1 M
def F_Tokens_next (o : Nat) (M : z_Mem) : Option (z_Mem) :=
  if ((M.1 (o + 499) 7) - 1) ≤ (M.1 (o + 499) 8) then
    F_Tokens_next_J23 o M
  else
    zl (z_wI M (o + 499) 8 ((M.1 (o + 499) 8) + 1)) fun M1 =>
    F_Tokens_next_J23 o M1
def F_Tokens_takeWord_J24 (o : Nat) (M : z_Mem) : Option (Int32 × z_Mem) :=
  zb (F_Tokens_fail o 1 M) fun M3 =>
  some ((-1), M3)
def F_Tokens_takeWord (o : Nat) (p0 : Int32) (p1 : Int32) (M : z_Mem) : Option (Int32 × z_Mem) :=
  if (M.1 (o + 499) 9) = 1 then
    if (M.1 (o + 499) 10) < p0 then
      F_Tokens_takeWord_J24 o M
    else
      if (M.1 (o + 499) 10) ≤ p1 then
        zl ((M.1 (o + 499) 10)) fun x1 =>
        zb (F_Tokens_next o M) fun M2 =>
        some (x1, M2)
      else
        F_Tokens_takeWord_J24 o M
  else
    F_Tokens_takeWord_J24 o M
def F_Tokens_checkNumber_J31 (o : Nat) (M : z_Mem) : Option (Int32 × z_Mem) :=
  zb (F_Tokens_fail o 2 M) fun M2 =>
  some ((-1), M2)
def F_Tokens_checkNumber (o : Nat) (p0 : Int32) (p1 : Int32) (M : z_Mem) : Option (Int32 × z_Mem) :=
  if (M.1 (o + 499) 9) = 2 then
    if (M.1 (o + 499) 10) < p0 then
      F_Tokens_checkNumber_J31 o M
    else
      if (M.1 (o + 499) 10) ≤ p1 then
        some ((M.1 (o + 499) 10), M)
      else
        F_Tokens_checkNumber_J31 o M
  else
    zb (F_Tokens_fail o 1 M) fun M1 =>
    some ((-1), M1)
def F_Tokens_takeNumber (o : Nat) (p0 : Int32) (p1 : Int32) (M : z_Mem) : Option (Int32 × z_Mem) :=
  zb2 (F_Tokens_checkNumber o p0 p1 M) fun x2 M1 =>
  zb (F_Tokens_next o M1) fun M3 =>
  some (x2, M3)
def F_Town_clear_J46 (a : Nat) (rec12 : Int32 → z_Mem → Option (z_Mem)) (rec20 : Int32 → Int32 → z_Mem → Option (z_Mem)) (v2 : Int32) (v3 : Int32) (s0 : Int32) (s1 : Int32) (M : z_Mem) : Option (z_Mem) :=
  if z_inb s1 64 then
  zl (z_wI M (a + 1) s1.toNatClampNeg s0) fun M4 =>
  zl (v3 + 1) fun x5 =>
  rec20 v2 x5 M4
  else none
def F_Town_clear_B20 (a : Nat) (rec12 : Int32 → z_Mem → Option (z_Mem)) (rec20 : Int32 → Int32 → z_Mem → Option (z_Mem)) (v2 : Int32) (v3 : Int32) (M : z_Mem) : Option (z_Mem) :=
  if 8 ≤ v3 then
    zl (v2 + 1) fun x3 =>
    rec12 x3 M
  else
    if v2 = v3 then
      F_Town_clear_J46 a rec12 rec20 v2 v3 0 ((v2 * 8) + v3) M
    else
      F_Town_clear_J46 a rec12 rec20 v2 v3 (-1) ((v2 * 8) + v3) M
def F_Town_clear_L20 (a : Nat) (rec12 : Int32 → z_Mem → Option (z_Mem)) : Nat → Int32 → Int32 → z_Mem → Option (z_Mem)
  | 0, _, _, _ => none
  | n9 + 1, v2, v3, M => F_Town_clear_B20 a rec12 (F_Town_clear_L20 a rec12 n9) v2 v3 M
def F_Town_clear_B12 (a : Nat) (rec12 : Int32 → z_Mem → Option (z_Mem)) (v2 : Int32) (M : z_Mem) : Option (z_Mem) :=
  if 8 ≤ v2 then
    some M
  else
    F_Town_clear_L20 a rec12 10000 v2 0 M
def F_Town_clear_L12 (a : Nat) : Nat → Int32 → z_Mem → Option (z_Mem)
  | 0, _, _ => none
  | n9 + 1, v2, M => F_Town_clear_B12 a (F_Town_clear_L12 a n9) v2 M
def F_Town_clear (a : Nat) (p0 : Int32) (M : z_Mem) : Option (z_Mem) :=
  zl (z_wI M a 0 p0) fun M1 =>
  zl (z_wI M1 a 1 0) fun M2 =>
  F_Town_clear_L12 a 10000 0 M2
def F_Tokens_takeSign_J23 (o : Nat) (M : z_Mem) : Option (z_Mem) :=
  zb (F_Tokens_fail o 1 M) fun M2 =>
  some M2
def F_Tokens_takeSign (o : Nat) (p0 : Int32) (M : z_Mem) : Option (z_Mem) :=
  if (M.1 (o + 499) 9) = 3 then
    if (M.1 (o + 499) 10) = p0 then
      zb (F_Tokens_next o M) fun M1 =>
      some M1
    else
      F_Tokens_takeSign_J23 o M
  else
    F_Tokens_takeSign_J23 o M
def F_Tokens_hasMore (o : Nat) (M : z_Mem) : Option (Int32) :=
  if (M.1 (o + 499) 0) = 0 then
    if (M.1 (o + 499) 9) = 4 then
      some (0)
    else
      some (1)
  else
    some (0)
def F_Tokens_isWord (o : Nat) (p0 : Int32) (M : z_Mem) : Option (Int32) :=
  if (M.1 (o + 499) 9) = 1 then
    if (M.1 (o + 499) 10) = p0 then
      some (1)
    else
      some (0)
  else
    some (0)
def F_Town_addRoad (a : Nat) (p0 : Int32) (p1 : Int32) (p2 : Int32) (M : z_Mem) : Option (z_Mem) :=
  zb (F_Town_hasPlaces p0 p1 M) fun x1 =>
  if x1 = 0 then
    some M
  else
    zl (z_wI M a 1 ((M.1 a 1) + 1)) fun M2 =>
    if z_inb ((p0 * 8) + p1) 64 then
    zl (z_wI M2 (a + 1) ((p0 * 8) + p1).toNatClampNeg p2) fun M3 =>
    if z_inb ((p1 * 8) + p0) 64 then
    zl (z_wI M3 (a + 1) ((p1 * 8) + p0).toNatClampNeg p2) fun M4 =>
    some M4
    else none
    else none
def F_TextReader_readRoad_J57 (o : Nat) (v1 : Int32) (v2 : Int32) (M : z_Mem) : Option (z_Mem) :=
  zb (F_Tokens_next o M) fun M7 =>
  zb2 (F_Tokens_takeNumber o 1 99 M7) fun x9 M8 =>
  zb (F_Town_addRoad (o + 505) v1 v2 x9 M8) fun M10 =>
  some M10
def F_TextReader_readRoad (o : Nat) (M : z_Mem) : Option (z_Mem) :=
  zb2 (F_Tokens_takeNumber o 0 ((M.1 (o + 505) 0) - 1) M) fun x2 M1 =>
  zb2 (F_Tokens_checkNumber o 0 ((M1.1 (o + 505) 0) - 1) M1) fun x4 M3 =>
  zb (F_Town_wayMinutes (o + 505) x2 x4 M3) fun x5 =>
  if x5 = (-1) then
    F_TextReader_readRoad_J57 o x2 x4 M3
  else
    zb (F_Tokens_fail o 4 M3) fun M6 =>
    F_TextReader_readRoad_J57 o x2 x4 M6
def F_TextReader_readRuleValue (o : Nat) (p0 : Int32) (M : z_Mem) : Option (z_Mem) :=
  if p0 < 0 then
    some M
  else
    if 10 ≤ p0 then
      some M
    else
      if z_inb p0 10 then
      if z_inb p0 10 then
      zb2 (F_Tokens_takeNumber o (z_sv 1 p0.toNatClampNeg) (z_sv 2 p0.toNatClampNeg) M) fun x2 M1 =>
      zb (F_Desk_changeRule (o + 507) p0 x2 M1) fun M3 =>
      some M3
      else none
      else none
def F_TextReader_readTaxi_J68 (o : Nat) (v1 : Int32) (v2 : Int32) (v3 : Int32) (v4 : Int32) (M : z_Mem) : Option (z_Mem) :=
  zb (F_Tokens_next o M) fun M10 =>
  if (M10.1 (o + 507) 3) < 0 then
    some M10
  else
    if 4 ≤ (M10.1 (o + 507) 3) then
      some M10
    else
      if z_inb (M10.1 (o + 507) 3) 4 then
      zl ((o + 507) + 4 + 3 * (M10.1 (o + 507) 3).toNatClampNeg) fun t11 =>
      zb (F_Taxi_startShift t11 v1 v2 v3 v4 M10) fun M13 =>
      zl (z_wI M13 (o + 507) 3 ((M13.1 (o + 507) 3) + 1)) fun M14 =>
      some M14
      else none
def F_TextReader_readTaxi (o : Nat) (M : z_Mem) : Option (z_Mem) :=
  zb2 (F_Tokens_takeNumber o 1 6 M) fun x2 M1 =>
  zb2 (F_Tokens_takeNumber o 0 ((M1.1 (o + 505) 0) - 1) M1) fun x4 M3 =>
  zb2 (F_Tokens_takeNumber o 0 2879 M3) fun x6 M5 =>
  zb2 (F_Tokens_checkNumber o 0 2879 M5) fun x8 M7 =>
  if x6 < x8 then
    F_TextReader_readTaxi_J68 o x2 x4 x6 x8 M7
  else
    zb (F_Tokens_fail o 4 M7) fun M9 =>
    F_TextReader_readTaxi_J68 o x2 x4 x6 x8 M9
def F_TextReader_readClause_J167 (o : Nat) (M : z_Mem) : Option (z_Mem) :=
  zb (F_Tokens_takeSign o 59 M) fun M19 =>
  some M19
def F_TextReader_readClause_J30 (o : Nat) (M : z_Mem) : Option (z_Mem) :=
  zb2 (F_Tokens_takeWord o 1 5 M) fun x4 M3 =>
  if x4 = 1 then
    zb (F_TextReader_readRoad o M3) fun M18 =>
    F_TextReader_readClause_J167 o M18
  else
    if x4 = 2 then
      zb2 (F_Tokens_takeNumber o 0 9999 M3) fun x13 M12 =>
      zl (z_wI M12 (o + 507) 1 x13) fun M14 =>
      zb2 (F_Tokens_takeNumber o 0 999 M14) fun x16 M15 =>
      zl (z_wI M15 (o + 507) 2 x16) fun M17 =>
      F_TextReader_readClause_J167 o M17
    else
      if x4 = 3 then
        zb2 (F_Tokens_takeNumber o 2 4 M3) fun x10 M9 =>
        zb (F_TextReader_readRuleValue o ((7 + x10) - 2) M9) fun M11 =>
        F_TextReader_readClause_J167 o M11
      else
        if x4 = 4 then
          zb2 (F_Tokens_takeWord o 14 20 M3) fun x7 M6 =>
          zb (F_TextReader_readRuleValue o (x7 - 14) M6) fun M8 =>
          F_TextReader_readClause_J167 o M8
        else
          if x4 = 5 then
            zb (F_TextReader_readTaxi o M3) fun M5 =>
            F_TextReader_readClause_J167 o M5
          else
            F_TextReader_readClause_J167 o M3
def F_TextReader_readClause (o : Nat) (M : z_Mem) : Option (z_Mem) :=
  zb (F_Tokens_isWord o 5 M) fun x1 =>
  if x1 = 0 then
    F_TextReader_readClause_J30 o M
  else
    if (M.1 (o + 507) 3) < 4 then
      F_TextReader_readClause_J30 o M
    else
      zb (F_Tokens_fail o 3 M) fun M2 =>
      F_TextReader_readClause_J30 o M2
def F_Town_shorten_J61 (a : Nat) (v1 : Int32) (v2 : Int32) (v4 : Int32) (v5 : Int32) (M : z_Mem) : Option (z_Mem) :=
  if z_inb ((v1 * 8) + v2) 64 then
  zl (z_wI M (a + 1) ((v1 * 8) + v2).toNatClampNeg (v4 + v5)) fun M5 =>
  some M5
  else none
def F_Town_shorten (a : Nat) (p0 : Int32) (p1 : Int32) (p2 : Int32) (M : z_Mem) : Option (z_Mem) :=
  zb (F_Town_wayMinutes a p0 p2 M) fun x1 =>
  zb (F_Town_wayMinutes a p2 p1 M) fun x2 =>
  if x1 = (-1) then
    some M
  else
    if x2 = (-1) then
      some M
    else
      zb (F_Town_hasPlaces p0 p1 M) fun x3 =>
      if x3 = 0 then
        some M
      else
        zb (F_Town_wayMinutes a p0 p1 M) fun x4 =>
        if x4 = (-1) then
          F_Town_shorten_J61 a p0 p1 x1 x2 M
        else
          if x4 ≤ (x1 + x2) then
            some M
          else
            F_Town_shorten_J61 a p0 p1 x1 x2 M
def F_Town_findWays_B18 (a : Nat) (rec2 : Int32 → z_Mem → Option (z_Mem)) (rec10 : Int32 → Int32 → z_Mem → Option (z_Mem)) (rec18 : Int32 → Int32 → Int32 → z_Mem → Option (z_Mem)) (v1 : Int32) (v2 : Int32) (v3 : Int32) (M : z_Mem) : Option (z_Mem) :=
  if 8 ≤ v3 then
    zl (v2 + 1) fun x2 =>
    rec10 v1 x2 M
  else
    zb (F_Town_shorten a v2 v3 v1 M) fun M3 =>
    zl (v3 + 1) fun x4 =>
    rec18 v1 v2 x4 M3
def F_Town_findWays_L18 (a : Nat) (rec2 : Int32 → z_Mem → Option (z_Mem)) (rec10 : Int32 → Int32 → z_Mem → Option (z_Mem)) : Nat → Int32 → Int32 → Int32 → z_Mem → Option (z_Mem)
  | 0, _, _, _, _ => none
  | n9 + 1, v1, v2, v3, M => F_Town_findWays_B18 a rec2 rec10 (F_Town_findWays_L18 a rec2 rec10 n9) v1 v2 v3 M
def F_Town_findWays_B10 (a : Nat) (rec2 : Int32 → z_Mem → Option (z_Mem)) (rec10 : Int32 → Int32 → z_Mem → Option (z_Mem)) (v1 : Int32) (v2 : Int32) (M : z_Mem) : Option (z_Mem) :=
  if 8 ≤ v2 then
    zl (v1 + 1) fun x1 =>
    rec2 x1 M
  else
    F_Town_findWays_L18 a rec2 rec10 10000 v1 v2 0 M
def F_Town_findWays_L10 (a : Nat) (rec2 : Int32 → z_Mem → Option (z_Mem)) : Nat → Int32 → Int32 → z_Mem → Option (z_Mem)
  | 0, _, _, _ => none
  | n9 + 1, v1, v2, M => F_Town_findWays_B10 a rec2 (F_Town_findWays_L10 a rec2 n9) v1 v2 M
def F_Town_findWays_B2 (a : Nat) (rec2 : Int32 → z_Mem → Option (z_Mem)) (v1 : Int32) (M : z_Mem) : Option (z_Mem) :=
  if 8 ≤ v1 then
    some M
  else
    F_Town_findWays_L10 a rec2 10000 v1 0 M
def F_Town_findWays_L2 (a : Nat) : Nat → Int32 → z_Mem → Option (z_Mem)
  | 0, _, _ => none
  | n9 + 1, v1, M => F_Town_findWays_B2 a (F_Town_findWays_L2 a n9) v1 M
def F_Town_findWays (a : Nat) (M : z_Mem) : Option (z_Mem) :=
  F_Town_findWays_L2 a 10000 0 M
def F_TextReader_readText_J72 (o : Nat) (M : z_Mem) : Option (z_Mem) :=
  zb (F_Town_findWays (o + 505) M) fun M11 =>
  some M11
def F_TextReader_readText_B45 (o : Nat) (rec45 : Int32 → z_Mem → Option (z_Mem)) (v1 : Int32) (M : z_Mem) : Option (z_Mem) :=
  if 800 ≤ v1 then
    F_TextReader_readText_J72 o M
  else
    zb (F_Tokens_hasMore o M) fun x8 =>
    if x8 = 0 then
      F_TextReader_readText_J72 o M
    else
      zb (F_TextReader_readClause o M) fun M9 =>
      zl (v1 + 1) fun x10 =>
      rec45 x10 M9
def F_TextReader_readText_L45 (o : Nat) : Nat → Int32 → z_Mem → Option (z_Mem)
  | 0, _, _ => none
  | n9 + 1, v1, M => F_TextReader_readText_B45 o (F_TextReader_readText_L45 o n9) v1 M
def F_TextReader_readText (o : Nat) (M : z_Mem) : Option (z_Mem) :=
  zb (F_Desk_clear (o + 507) M) fun M1 =>
  zb2 (F_Tokens_takeWord o 0 0 M1) fun x3 M2 =>
  zb2 (F_Tokens_takeNumber o 2 8 M2) fun x5 M4 =>
  zb (F_Town_clear (o + 505) x5 M4) fun M6 =>
  zb (F_Tokens_takeSign o 59 M6) fun M7 =>
  F_TextReader_readText_L45 o 10000 0 M7
def F_Tokens_byteAt (o : Nat) (p0 : Int32) (M : z_Mem) : Option (Int32) :=
  if p0 < 0 then
    some (0)
  else
    if 800 ≤ p0 then
      some (0)
    else
      if z_inb p0 800 then
      some (((M.1 (o + 1) p0.toNatClampNeg) &&& 255))
      else none
def F_Tokens_kindOf_J28 (v0 : Int32) (M : z_Mem) : Option (Int32) :=
  if v0 < 48 then
    some (3)
  else
    if 57 < v0 then
      some (3)
    else
      some (2)
def F_Tokens_kindOf (p0 : Int32) (M : z_Mem) : Option (Int32) :=
  if p0 = 32 then
    some (0)
  else
    if p0 = 10 then
      some (0)
    else
      if p0 < 97 then
        F_Tokens_kindOf_J28 p0 M
      else
        if 122 < p0 then
          F_Tokens_kindOf_J28 p0 M
        else
          some (1)
def F_Tokens_appendToken (o : Nat) (p0 : Int32) (p1 : Int32) (M : z_Mem) : Option (z_Mem) :=
  if (M.1 (o + 499) 7) < 0 then
    some M
  else
    if 800 < (M.1 (o + 499) 7) then
      some M
    else
      if z_inb (M.1 (o + 499) 7) 801 then
      zl (z_wI M (o + 500) (M.1 (o + 499) 7).toNatClampNeg p0) fun M1 =>
      if z_inb (M1.1 (o + 499) 7) 801 then
      zl (z_wI M1 (o + 501) (M1.1 (o + 499) 7).toNatClampNeg p1) fun M2 =>
      if z_inb (M2.1 (o + 499) 7) 801 then
      zl (z_wI M2 (o + 502) (M2.1 (o + 499) 7).toNatClampNeg 0) fun M3 =>
      if z_inb (M3.1 (o + 499) 7) 801 then
      zl (z_wI M3 (o + 503) (M3.1 (o + 499) 7).toNatClampNeg 0) fun M4 =>
      zl (z_wI M4 (o + 499) 7 ((M4.1 (o + 499) 7) + 1)) fun M5 =>
      some M5
      else none
      else none
      else none
      else none
def F_Tokens_extendToken (o : Nat) (p0 : Int32) (M : z_Mem) : Option (z_Mem) :=
  zl (((M.1 (o + 499) 7) - 1)) fun x1 =>
  if x1 < 0 then
    some M
  else
    if x1 ≤ 800 then
      if z_inb x1 801 then
      if z_inb x1 801 then
      zl (z_wI M (o + 502) x1.toNatClampNeg ((M.1 (o + 502) x1.toNatClampNeg) + 1)) fun M2 =>
      if z_inb x1 801 then
      if (M2.1 (o + 500) x1.toNatClampNeg) = 2 then
        if z_inb x1 801 then
        zl (if 1000000 < ((((M2.1 (o + 503) x1.toNatClampNeg) * 10) + p0) - 48) then 1000000 else ((((M2.1 (o + 503) x1.toNatClampNeg) * 10) + p0) - 48)) fun x4 =>
        if z_inb x1 801 then
        zl (z_wI M2 (o + 503) x1.toNatClampNeg x4) fun M5 =>
        some M5
        else none
        else none
      else
        if z_inb x1 801 then
        zl (z_wI M2 (o + 503) x1.toNatClampNeg p0) fun M3 =>
        some M3
        else none
      else none
      else none
      else none
    else
      some M
def F_Tokens_isWordAt_B3 (o : Nat) (rec3 : Int32 → Int32 → Int32 → Int32 → z_Mem → Option (Int32)) (v1 : Int32) (v2 : Int32) (v3 : Int32) (v4 : Int32) (M : z_Mem) : Option (Int32) :=
  if v3 ≤ v4 then
    some (1)
  else
    zl ((v1 + v4)) fun x1 =>
    if x1 < 0 then
      some (0)
    else
      if 144 ≤ x1 then
        some (0)
      else
        if z_inb x1 144 then
        zb (F_Tokens_byteAt o (v2 + v4) M) fun x2 =>
        if (z_wc x1.toNatClampNeg) = x2 then
          zl (v4 + 1) fun x3 =>
          rec3 v1 v2 v3 x3 M
        else
          some (0)
        else none
def F_Tokens_isWordAt_L3 (o : Nat) : Nat → Int32 → Int32 → Int32 → Int32 → z_Mem → Option (Int32)
  | 0, _, _, _, _, _ => none
  | n9 + 1, v1, v2, v3, v4, M => F_Tokens_isWordAt_B3 o (F_Tokens_isWordAt_L3 o n9) v1 v2 v3 v4 M
def F_Tokens_isWordAt (o : Nat) (p0 : Int32) (p1 : Int32) (p2 : Int32) (M : z_Mem) : Option (Int32) :=
  F_Tokens_isWordAt_L3 o 10000 p0 p1 p2 0 M
def F_Tokens_placeOfWord_J62 (o : Nat) (rec8 : Int32 → Int32 → Int32 → Int32 → Int32 → z_Mem → Option (Int32)) (v1 : Int32) (v2 : Int32) (v3 : Int32) (v5 : Int32) (M : z_Mem) : Option (Int32) :=
  zl (v3 + 1) fun x3 =>
  zl ((v5 + 1)) fun x4 =>
  zl (v5 + 1) fun x5 =>
  rec8 v1 v2 x3 x4 x5 M
def F_Tokens_placeOfWord_J40 (o : Nat) (rec8 : Int32 → Int32 → Int32 → Int32 → Int32 → z_Mem → Option (Int32)) (v1 : Int32) (v2 : Int32) (v3 : Int32) (v4 : Int32) (v5 : Int32) (M : z_Mem) : Option (Int32) :=
  if (v5 - v4) = v2 then
    zb (F_Tokens_isWordAt o v4 v1 v2 M) fun x2 =>
    if x2 = 0 then
      F_Tokens_placeOfWord_J62 o rec8 v1 v2 v3 v5 M
    else
      some (v3)
  else
    F_Tokens_placeOfWord_J62 o rec8 v1 v2 v3 v5 M
def F_Tokens_placeOfWord_B8 (o : Nat) (rec8 : Int32 → Int32 → Int32 → Int32 → Int32 → z_Mem → Option (Int32)) (v1 : Int32) (v2 : Int32) (v3 : Int32) (v4 : Int32) (v5 : Int32) (M : z_Mem) : Option (Int32) :=
  if 144 < v5 then
    some ((-1))
  else
    if v5 = 144 then
      F_Tokens_placeOfWord_J40 o rec8 v1 v2 v3 v4 v5 M
    else
      if z_inb v5 144 then
      if (z_wc v5.toNatClampNeg) = 32 then
        F_Tokens_placeOfWord_J40 o rec8 v1 v2 v3 v4 v5 M
      else
        zl (v5 + 1) fun x1 =>
        rec8 v1 v2 v3 v4 x1 M
      else none
def F_Tokens_placeOfWord_L8 (o : Nat) : Nat → Int32 → Int32 → Int32 → Int32 → Int32 → z_Mem → Option (Int32)
  | 0, _, _, _, _, _, _ => none
  | n9 + 1, v1, v2, v3, v4, v5, M => F_Tokens_placeOfWord_B8 o (F_Tokens_placeOfWord_L8 o n9) v1 v2 v3 v4 v5 M
def F_Tokens_placeOfWord (o : Nat) (p0 : Int32) (p1 : Int32) (M : z_Mem) : Option (Int32) :=
  F_Tokens_placeOfWord_L8 o 10000 p0 p1 0 0 0 M
def F_Tokens_nameWords_B2 (o : Nat) (rec2 : Int32 → z_Mem → Option (z_Mem)) (v1 : Int32) (M : z_Mem) : Option (z_Mem) :=
  if (M.1 (o + 499) 7) ≤ v1 then
    some M
  else
    if 800 < v1 then
      some M
    else
      if z_inb v1 801 then
      if (M.1 (o + 500) v1.toNatClampNeg) = 1 then
        if z_inb v1 801 then
        if z_inb v1 801 then
        zb (F_Tokens_placeOfWord o (M.1 (o + 501) v1.toNatClampNeg) (M.1 (o + 502) v1.toNatClampNeg) M) fun x2 =>
        if z_inb v1 801 then
        zl (z_wI M (o + 503) v1.toNatClampNeg x2) fun M3 =>
        zl (v1 + 1) fun x4 =>
        rec2 x4 M3
        else none
        else none
        else none
      else
        zl (v1 + 1) fun x1 =>
        rec2 x1 M
      else none
def F_Tokens_nameWords_L2 (o : Nat) : Nat → Int32 → z_Mem → Option (z_Mem)
  | 0, _, _ => none
  | n9 + 1, v1, M => F_Tokens_nameWords_B2 o (F_Tokens_nameWords_L2 o n9) v1 M
def F_Tokens_nameWords (o : Nat) (M : z_Mem) : Option (z_Mem) :=
  F_Tokens_nameWords_L2 o 10000 0 M
def F_Tokens_begin_J73 (o : Nat) (rec19 : Int32 → Int32 → Int32 → z_Mem → Option (z_Mem)) (v1 : Int32) (v3 : Int32) (v5 : Int32) (M : z_Mem) : Option (z_Mem) :=
  zl (v3 + 1) fun x12 =>
  rec19 v1 v5 x12 M
def F_Tokens_begin_J62 (o : Nat) (rec19 : Int32 → Int32 → Int32 → z_Mem → Option (z_Mem)) (v1 : Int32) (v3 : Int32) (v4 : Int32) (v5 : Int32) (M : z_Mem) : Option (z_Mem) :=
  if v5 = 0 then
    F_Tokens_begin_J73 o rec19 v1 v3 v5 M
  else
    zb (F_Tokens_extendToken o v4 M) fun M11 =>
    F_Tokens_begin_J73 o rec19 v1 v3 v5 M11
def F_Tokens_begin_J55 (o : Nat) (rec19 : Int32 → Int32 → Int32 → z_Mem → Option (z_Mem)) (v1 : Int32) (v3 : Int32) (v4 : Int32) (v5 : Int32) (M : z_Mem) : Option (z_Mem) :=
  zb (F_Tokens_appendToken o v5 v3 M) fun M10 =>
  F_Tokens_begin_J62 o rec19 v1 v3 v4 v5 M10
def F_Tokens_begin_B19 (o : Nat) (rec19 : Int32 → Int32 → Int32 → z_Mem → Option (z_Mem)) (v1 : Int32) (v2 : Int32) (v3 : Int32) (M : z_Mem) : Option (z_Mem) :=
  if v1 ≤ v3 then
    zb (F_Tokens_appendToken o 4 v1 M) fun M4 =>
    zb (F_Tokens_nameWords o M4) fun M5 =>
    zl (z_wI M5 (o + 499) 8 (-1)) fun M6 =>
    zb (F_Tokens_next o M6) fun M7 =>
    some M7
  else
    zb (F_Tokens_byteAt o v3 M) fun x8 =>
    zb (F_Tokens_kindOf x8 M) fun x9 =>
    if x9 = 3 then
      F_Tokens_begin_J55 o rec19 v1 v3 x8 x9 M
    else
      if x9 = 0 then
        F_Tokens_begin_J62 o rec19 v1 v3 x8 x9 M
      else
        if x9 = v2 then
          F_Tokens_begin_J62 o rec19 v1 v3 x8 x9 M
        else
          F_Tokens_begin_J55 o rec19 v1 v3 x8 x9 M
def F_Tokens_begin_L19 (o : Nat) : Nat → Int32 → Int32 → Int32 → z_Mem → Option (z_Mem)
  | 0, _, _, _, _ => none
  | n9 + 1, v1, v2, v3, M => F_Tokens_begin_B19 o (F_Tokens_begin_L19 o n9) v1 v2 v3 M
def F_Tokens_begin (o : Nat) (p0 : Int32) (M : z_Mem) : Option (z_Mem) :=
  zl (z_wI M (o + 499) 0 0) fun M1 =>
  zl (z_wI M1 (o + 499) 1 (-1)) fun M2 =>
  zl (z_wI M2 (o + 499) 7 0) fun M3 =>
  F_Tokens_begin_L19 o 10000 p0 0 0 M3
def F_Town_copyFrom_B18 (a : Nat) (rec18 : Nat → Int32 → z_Mem → Option (z_Mem)) (u1 : Nat) (v2 : Int32) (M : z_Mem) : Option (z_Mem) :=
  if 64 ≤ v2 then
    some M
  else
    if z_inb v2 64 then
    if z_inb v2 64 then
    zl (z_wI M (a + 1) v2.toNatClampNeg (M.1 (u1 + 1) v2.toNatClampNeg)) fun M3 =>
    zl (v2 + 1) fun x4 =>
    rec18 u1 x4 M3
    else none
    else none
def F_Town_copyFrom_L18 (a : Nat) : Nat → Nat → Int32 → z_Mem → Option (z_Mem)
  | 0, _, _, _ => none
  | n9 + 1, u1, v2, M => F_Town_copyFrom_B18 a (F_Town_copyFrom_L18 a n9) u1 v2 M
def F_Town_copyFrom (a : Nat) (r0 : Nat) (M : z_Mem) : Option (z_Mem) :=
  zl (z_wI M a 0 (M.1 r0 0)) fun M1 =>
  zl (z_wI M1 a 1 (M1.1 r0 1)) fun M2 =>
  F_Town_copyFrom_L18 a 10000 r0 0 M2
def F_Traffic_amountOfWay_J43 (o : Nat) (v3 : Int32) (s0 : Int32) (M : z_Mem) : Option (Int32) :=
  some ((v3 - ((v3 * s0) / 100)))
def F_Traffic_amountOfWay (o : Nat) (p0 : Int32) (p1 : Int32) (M : z_Mem) : Option (Int32) :=
  if 1 ≤ p1 then
    zl ((p0 * (M.1 (o + 5) 2))) fun x1 =>
    if p1 = 1 then
      F_Traffic_amountOfWay_J43 o x1 0 M
    else
      zl (if 4 < p1 then 4 else p1) fun x2 =>
      zb (F_Desk_ruleValue (o + 5) ((7 + x2) - 2) M) fun x3 =>
      F_Traffic_amountOfWay_J43 o x1 x3 M
  else
    some (0)
def F_Traffic_shareOf_J22 (s0 : Int32) (s1 : Int32) (M : z_Mem) : Option (Int32) :=
  some ((s1 + s0))
def F_Traffic_shareOf (p0 : Int32) (p1 : Int32) (p2 : Int32) (M : z_Mem) : Option (Int32) :=
  if 1 ≤ p1 then
    if ¬ p1 = 0 then
    if ¬ p1 = 0 then
    if (p0 - p0 / p1 * p1) ≤ p2 then
      F_Traffic_shareOf_J22 0 (p0 / p1) M
    else
      F_Traffic_shareOf_J22 1 (p0 / p1) M
    else none
    else none
  else
    some (0)
def F_Traffic_pay (r0 : Nat) (r1 : Nat) (p2 : Int32) (M : z_Mem) : Option (z_Mem) :=
  zl (z_wI M r1 12 ((M.1 r1 12) + p2)) fun M1 =>
  zl (z_wI M1 r0 11 ((M1.1 r0 11) + p2)) fun M2 =>
  some M2
def F_Traffic_payWay_J114 (o : Nat) (s0 : Int32) (s1 : Int32) (s2 : Nat) (M : z_Mem) : Option (z_Mem) :=
  zl (z_wI M s2 15 (s1 + s0)) fun M11 =>
  some M11
def F_Traffic_payWay_J92 (o : Nat) (u1 : Nat) (v2 : Int32) (s0 : Int32) (s1 : Int32) (s2 : Nat) (M : z_Mem) : Option (z_Mem) :=
  zl (z_wI M s2 14 (s1 + s0)) fun M10 =>
  if (M10.1 u1 8) ≤ 1 then
    F_Traffic_payWay_J114 o 0 (M10.1 u1 15) u1 M10
  else
    F_Traffic_payWay_J114 o v2 (M10.1 u1 15) u1 M10
def F_Traffic_payWay_B13 (o : Nat) (rec13 : Nat → Int32 → Int32 → Int32 → z_Mem → Option (z_Mem)) (u1 : Nat) (v2 : Int32) (v3 : Int32) (v4 : Int32) (M : z_Mem) : Option (z_Mem) :=
  if (M.1 u1 8) ≤ v4 then
    zl (z_wI M u1 16 ((M.1 u1 16) + v3)) fun M2 =>
    zl (z_wI M2 u1 13 ((M2.1 u1 13) + v2)) fun M3 =>
    if (M3.1 u1 8) ≤ 0 then
      F_Traffic_payWay_J92 o u1 v2 0 (M3.1 u1 14) u1 M3
    else
      F_Traffic_payWay_J92 o u1 v2 v2 (M3.1 u1 14) u1 M3
  else
    zb (F_Taxi_partyAt u1 v4 M) fun x4 =>
    zb (F_Desk_rideAt (o + 5) x4 M) fun t5 =>
    zb (F_Traffic_shareOf v3 (M.1 u1 8) v4 M) fun x7 =>
    zb (F_Traffic_pay u1 t5 x7 M) fun M8 =>
    zl (v4 + 1) fun x9 =>
    rec13 u1 v2 v3 x9 M8
def F_Traffic_payWay_L13 (o : Nat) : Nat → Nat → Int32 → Int32 → Int32 → z_Mem → Option (z_Mem)
  | 0, _, _, _, _, _ => none
  | n9 + 1, u1, v2, v3, v4, M => F_Traffic_payWay_B13 o (F_Traffic_payWay_L13 o n9) u1 v2 v3 v4 M
def F_Traffic_payWay (o : Nat) (r0 : Nat) (p1 : Int32) (M : z_Mem) : Option (z_Mem) :=
  zb (F_Traffic_amountOfWay o p1 (M.1 r0 8) M) fun x1 =>
  F_Traffic_payWay_L13 o 10000 r0 p1 x1 0 M
def F_Traffic_endPickup (o : Nat) (r0 : Nat) (p1 : Int32) (M : z_Mem) : Option (z_Mem) :=
  zb (F_Desk_rideAt (o + 5) p1 M) fun t1 =>
  zb (F_Plan_doneAt o 0 M) fun x3 =>
  zl (z_wI M t1 10 x3) fun M4 =>
  if (M4.1 t1 13) = 0 then
    zl (z_wI M4 t1 0 2) fun M5 =>
    zb (F_Traffic_pay r0 t1 (M5.1 (o + 5) 1) M5) fun M6 =>
    zb (F_Taxi_takeAboard r0 p1 M6) fun M7 =>
    some M7
  else
    zl (z_wI M4 t1 0 5) fun M8 =>
    zb (F_Desk_ruleValue (o + 5) 4 M8) fun x9 =>
    zb (F_Traffic_pay r0 t1 x9 M8) fun M10 =>
    some M10
def F_Traffic_endDrop (o : Nat) (r0 : Nat) (p1 : Int32) (M : z_Mem) : Option (z_Mem) :=
  zb (F_Desk_rideAt (o + 5) p1 M) fun t1 =>
  zl (z_wI M t1 0 3) fun M3 =>
  zb (F_Plan_arrivalAt o 0 M3) fun x4 =>
  zl (z_wI M3 t1 11 x4) fun M5 =>
  zb (F_Taxi_letOut r0 p1 M5) fun M6 =>
  some M6
def F_Traffic_doFirstStop (o : Nat) (r0 : Nat) (M : z_Mem) : Option (z_Mem) :=
  zb (F_Taxi_stopAt r0 0 M) fun x1 =>
  zb (F_Desk_rideNumber x1 M) fun x2 =>
  zb (F_Plan_wayTo o 0 M) fun x3 =>
  zb (F_Traffic_payWay o r0 x3 M) fun M4 =>
  zb (F_Plan_leavingAt o 0 M4) fun x5 =>
  zb (F_Plan_wayTo o 0 M4) fun x6 =>
  zb (F_Plan_stintBehind o (M4.1 r0 5) (M4.1 r0 2) x5 x6 M4) fun x7 =>
  zl (z_wI M4 r0 5 x7) fun M8 =>
  zb (F_Desk_zoneOfStop (o + 5) x1 M8) fun x9 =>
  zl (z_wI M8 r0 1 x9) fun M10 =>
  zb (F_Plan_doneAt o 0 M10) fun x11 =>
  zl (z_wI M10 r0 2 x11) fun M12 =>
  zl (z_wI M12 r0 6 (-1)) fun M13 =>
  zb (F_Taxi_removeStop r0 x1 M13) fun M14 =>
  zb (F_Desk_isPickup x1 M14) fun x15 =>
  if x15 = 0 then
    zb (F_Traffic_endDrop o r0 x2 M14) fun M16 =>
    some M16
  else
    zb (F_Traffic_endPickup o r0 x2 M14) fun M17 =>
    some M17
def F_Traffic_driveTill_J64 (o : Nat) (v3 : Int32) (s0 : Int32) (s1 : Nat) (M : z_Mem) : Option (Int32 × z_Mem) :=
  zl (z_wI M s1 6 s0) fun M8 =>
  some (v3, M8)
def F_Traffic_driveTill_B5 (o : Nat) (rec5 : Nat → Int32 → Int32 → Int32 → z_Mem → Option (Int32 × z_Mem)) (u1 : Nat) (v2 : Int32) (v3 : Int32) (v4 : Int32) (M : z_Mem) : Option (Int32 × z_Mem) :=
  if 12 ≤ v4 then
    some (v3, M)
  else
    if (M.1 u1 7) ≤ 0 then
      some (v3, M)
    else
      zb (F_Plan_planRoute o u1 M) fun M1 =>
      zb (F_Plan_doneAt o 0 M1) fun x2 =>
      if x2 ≤ v2 then
        zb (F_Traffic_doFirstStop o u1 M1) fun M3 =>
        zl (v3 + 1) fun x4 =>
        zl (v4 + 1) fun x5 =>
        rec5 u1 v2 x4 x5 M3
      else
        zb (F_Plan_leavingAt o 0 M1) fun x6 =>
        if v2 ≤ x6 then
          F_Traffic_driveTill_J64 o v3 (-1) u1 M1
        else
          zb (F_Plan_leavingAt o 0 M1) fun x7 =>
          F_Traffic_driveTill_J64 o v3 x7 u1 M1
def F_Traffic_driveTill_L5 (o : Nat) : Nat → Nat → Int32 → Int32 → Int32 → z_Mem → Option (Int32 × z_Mem)
  | 0, _, _, _, _, _ => none
  | n9 + 1, u1, v2, v3, v4, M => F_Traffic_driveTill_B5 o (F_Traffic_driveTill_L5 o n9) u1 v2 v3 v4 M
def F_Traffic_driveTill (o : Nat) (r0 : Nat) (p1 : Int32) (M : z_Mem) : Option (Int32 × z_Mem) :=
  F_Traffic_driveTill_L5 o 10000 r0 p1 0 0 M
def F_Traffic_closeOffers_B2 (o : Nat) (rec2 : Int32 → z_Mem → Option (z_Mem)) (v1 : Int32) (M : z_Mem) : Option (z_Mem) :=
  if (M.1 (o + 5) 4) ≤ v1 then
    some M
  else
    if 24 ≤ v1 then
      some M
    else
      if z_inb v1 24 then
      zl ((o + 5) + 16 + 1 * v1.toNatClampNeg) fun t1 =>
      if (M.1 t1 0) = 0 then
        if (M.1 (o + 5) 0) ≤ (M.1 t1 18) then
          zl (v1 + 1) fun x4 =>
          rec2 x4 M
        else
          zl (z_wI M t1 0 4) fun M5 =>
          zl (v1 + 1) fun x6 =>
          rec2 x6 M5
      else
        zl (v1 + 1) fun x3 =>
        rec2 x3 M
      else none
def F_Traffic_closeOffers_L2 (o : Nat) : Nat → Int32 → z_Mem → Option (z_Mem)
  | 0, _, _ => none
  | n9 + 1, v1, M => F_Traffic_closeOffers_B2 o (F_Traffic_closeOffers_L2 o n9) v1 M
def F_Traffic_closeOffers (o : Nat) (M : z_Mem) : Option (z_Mem) :=
  F_Traffic_closeOffers_L2 o 10000 0 M
def F_Traffic_passMinutes_J57 (o : Nat) (v2 : Int32) (v3 : Int32) (M : z_Mem) : Option (Int32 × z_Mem) :=
  zl (z_wI M (o + 5) 0 v2) fun M8 =>
  zb (F_Traffic_closeOffers o M8) fun M9 =>
  some (v3, M9)
def F_Traffic_passMinutes_B15 (o : Nat) (rec15 : Int32 → Int32 → Int32 → z_Mem → Option (Int32 × z_Mem)) (v2 : Int32) (v3 : Int32) (v4 : Int32) (M : z_Mem) : Option (Int32 × z_Mem) :=
  if (M.1 (o + 5) 3) ≤ v4 then
    F_Traffic_passMinutes_J57 o v2 v3 M
  else
    if 4 ≤ v4 then
      F_Traffic_passMinutes_J57 o v2 v3 M
    else
      if z_inb v4 4 then
      zl ((o + 5) + 4 + 3 * v4.toNatClampNeg) fun t2 =>
      zb2 (F_Traffic_driveTill o t2 v2 M) fun x5 M4 =>
      zl ((v3 + x5)) fun x6 =>
      zl (v4 + 1) fun x7 =>
      rec15 v2 x6 x7 M4
      else none
def F_Traffic_passMinutes_L15 (o : Nat) : Nat → Int32 → Int32 → Int32 → z_Mem → Option (Int32 × z_Mem)
  | 0, _, _, _, _ => none
  | n9 + 1, v2, v3, v4, M => F_Traffic_passMinutes_B15 o (F_Traffic_passMinutes_L15 o n9) v2 v3 v4 M
def F_Traffic_passMinutes (o : Nat) (p0 : Int32) (M : z_Mem) : Option (Int32 × z_Mem) :=
  zl (((M.1 (o + 5) 0) + p0)) fun x1 =>
  F_Traffic_passMinutes_L15 o 10000 x1 0 0 M
def F_Sys_appendFourBytes_B3 (o : Nat) (rec3 : Int32 → Int32 → z_Mem → Option (z_Mem)) (v1 : Int32) (v2 : Int32) (M : z_Mem) : Option (z_Mem) :=
  if v2 < 0 then
    some M
  else
    if (M.1 o 1) < 0 then
      zl (v2 + (-8)) fun x1 =>
      rec3 v1 x1 M
    else
      if 800 ≤ (M.1 o 1) then
        zl (v2 + (-8)) fun x2 =>
        rec3 v1 x2 M
      else
        if z_inb (M.1 o 1) 800 then
        zl (z_wI M (o + 1) (M.1 o 1).toNatClampNeg (((v1 >>> (v2 &&& 31)).toInt8.toInt32).toInt8.toInt32)) fun M3 =>
        zl (z_wI M3 o 1 ((M3.1 o 1) + 1)) fun M4 =>
        zl (v2 + (-8)) fun x5 =>
        rec3 v1 x5 M4
        else none
def F_Sys_appendFourBytes_L3 (o : Nat) : Nat → Int32 → Int32 → z_Mem → Option (z_Mem)
  | 0, _, _, _ => none
  | n9 + 1, v1, v2, M => F_Sys_appendFourBytes_B3 o (F_Sys_appendFourBytes_L3 o n9) v1 v2 M
def F_Sys_appendFourBytes (o : Nat) (p0 : Int32) (M : z_Mem) : Option (z_Mem) :=
  F_Sys_appendFourBytes_L3 o 10000 p0 24 M
def F_Sys_feed (o : Nat) (p0 : Int32) (p1 : Int32) (p2 : Int32) (p3 : Int32) (p4 : Int32) (M : z_Mem) : Option (Int32 × z_Mem) :=
  if ((M.1 o 1) + 20) ≤ 800 then
    zb (F_Sys_appendFourBytes o p0 M) fun M1 =>
    zb (F_Sys_appendFourBytes o p1 M1) fun M2 =>
    zb (F_Sys_appendFourBytes o p2 M2) fun M3 =>
    zb (F_Sys_appendFourBytes o p3 M3) fun M4 =>
    zb (F_Sys_appendFourBytes o p4 M4) fun M5 =>
    some ((M5.1 o 1), M5)
  else
    some ((-1), M)
def F_Sys_load_J12 (o : Nat) (M : z_Mem) : Option (Int32 × z_Mem) :=
  none
def F_Sys_load (o : Nat) (p0 : Int32) (M : z_Mem) : Option (Int32 × z_Mem) :=
  if p0 < 0 then
    F_Sys_load_J12 o M
  else
    if p0 ≤ (M.1 o 1) then
      zl (z_wI M o 1 0) fun M1 =>
      zb (F_Tokens_begin o p0 M1) fun M2 =>
      zb (F_TextReader_readText o M2) fun M3 =>
      zl (z_wI M3 o 2 (M3.1 (o + 499) 1)) fun M4 =>
      if (M4.1 (o + 499) 0) = 0 then
        zb (F_Town_copyFrom (o + 3) (o + 505) M4) fun M5 =>
        zb (F_Desk_copyFrom (o + 5) (o + 507) M5) fun M6 =>
        zb (F_History_clear o M6) fun M7 =>
        zl (z_wI M7 o 9 0) fun M8 =>
        some ((M8.1 (o + 5) 3), M8)
      else
        some (((-10) - (M4.1 (o + 499) 0)), M4)
    else
      F_Sys_load_J12 o M
def F_Sys_errorPosition (o : Nat) (M : z_Mem) : Option (Int32) :=
  some ((M.1 o 2))
def F_Sys_size (o : Nat) (p0 : Int32) (M : z_Mem) : Option (Int32) :=
  if p0 = 0 then
    some ((M.1 (o + 3) 0))
  else
    if p0 = 1 then
      some ((M.1 (o + 3) 1))
    else
      if p0 = 2 then
        some ((M.1 (o + 5) 3))
      else
        if p0 = 3 then
          some ((M.1 (o + 5) 4))
        else
          if p0 = 4 then
            some ((M.1 (o + 5) 0))
          else
            if p0 = 5 then
              zb (F_Desk_countInState (o + 5) 0 M) fun x2 =>
              some (x2)
            else
              if p0 = 6 then
                zb (F_Desk_stopsInAllRoutes (o + 5) M) fun x1 =>
                some (x1)
              else
                if p0 = 7 then
                  some ((M.1 (o + 5) 1))
                else
                  if p0 = 8 then
                    some ((M.1 (o + 5) 2))
                  else
                    none
def F_Sys_checkRule_J10 (M : z_Mem) : Option (Unit) :=
  none
def F_Sys_checkRule (p0 : Int32) (M : z_Mem) : Option (Unit) :=
  if p0 < 0 then
    F_Sys_checkRule_J10 M
  else
    if p0 < 10 then
      some ()
    else
      F_Sys_checkRule_J10 M
def F_Sys_rule (o : Nat) (p0 : Int32) (M : z_Mem) : Option (Int32) :=
  zb (F_Sys_checkRule p0 M) fun _ =>
  zb (F_Desk_ruleValue (o + 5) p0 M) fun x1 =>
  some (x1)
def F_Sys_existingTaxi (o : Nat) (p0 : Int32) (M : z_Mem) : Option (Nat) :=
  zb (F_Desk_hasTaxi (o + 5) p0 M) fun x1 =>
  if x1 = 0 then
    none
  else
    if z_inb p0 4 then
    zl ((o + 5) + 4 + 3 * p0.toNatClampNeg) fun t2 =>
    some (t2)
    else none
def F_Sys_account (o : Nat) (p0 : Int32) (p1 : Int32) (M : z_Mem) : Option (Int32) :=
  zb (F_Sys_existingTaxi o p0 M) fun t1 =>
  if p1 = 0 then
    some ((M.1 t1 11))
  else
    if p1 = 1 then
      some ((M.1 t1 12))
    else
      if p1 = 2 then
        some ((M.1 t1 13))
      else
        if p1 = 3 then
          some ((M.1 t1 14))
        else
          if p1 = 4 then
            some ((M.1 t1 15))
          else
            if p1 = 5 then
              some ((M.1 t1 16))
            else
              none
def F_Sys_existingRide_J21 (o : Nat) (M : z_Mem) : Option (Nat) :=
  none
def F_Sys_existingRide (o : Nat) (p0 : Int32) (M : z_Mem) : Option (Nat) :=
  if p0 < 0 then
    F_Sys_existingRide_J21 o M
  else
    if (M.1 (o + 5) 4) ≤ p0 then
      F_Sys_existingRide_J21 o M
    else
      if p0 < 24 then
        if z_inb p0 24 then
        zl ((o + 5) + 16 + 1 * p0.toNatClampNeg) fun t1 =>
        some (t1)
        else none
      else
        F_Sys_existingRide_J21 o M
def F_Sys_ride (o : Nat) (p0 : Int32) (p1 : Int32) (M : z_Mem) : Option (Int32) :=
  zb (F_Sys_existingRide o p0 M) fun t1 =>
  if p1 = 0 then
    some ((M.1 t1 0))
  else
    if p1 = 1 then
      some ((M.1 t1 1))
    else
      if p1 = 2 then
        some ((M.1 t1 2))
      else
        if p1 = 3 then
          some ((M.1 t1 3))
        else
          if p1 = 4 then
            some ((M.1 t1 4))
          else
            if p1 = 5 then
              some ((M.1 t1 5))
            else
              if p1 = 6 then
                some ((M.1 t1 6))
              else
                if p1 = 7 then
                  some ((M.1 t1 7))
                else
                  if p1 = 8 then
                    some ((M.1 t1 8))
                  else
                    if p1 = 9 then
                      some ((M.1 t1 9))
                    else
                      if p1 = 10 then
                        some ((M.1 t1 10))
                      else
                        if p1 = 11 then
                          some ((M.1 t1 11))
                        else
                          if p1 = 12 then
                            some ((M.1 t1 12))
                          else
                            if p1 = 13 then
                              if (M.1 t1 13) = 0 then
                                some (0)
                              else
                                some (1)
                            else
                              none
def F_Sys_checkZone_J15 (o : Nat) (M : z_Mem) : Option (Unit) :=
  none
def F_Sys_checkZone (o : Nat) (p0 : Int32) (M : z_Mem) : Option (Unit) :=
  if p0 < 0 then
    F_Sys_checkZone_J15 o M
  else
    if p0 < (M.1 (o + 3) 0) then
      some ()
    else
      F_Sys_checkZone_J15 o M
def F_Sys_checkRange_J10 (M : z_Mem) : Option (Unit) :=
  none
def F_Sys_checkRange (p0 : Int32) (p1 : Int32) (p2 : Int32) (M : z_Mem) : Option (Unit) :=
  if p0 < p1 then
    F_Sys_checkRange_J10 M
  else
    if p0 ≤ p2 then
      some ()
    else
      F_Sys_checkRange_J10 M
def F_Sys_findOffer_J142 (o : Nat) (s0 : Int32) (s1 : Nat) (M : z_Mem) : Option (z_Mem) :=
  zl (z_wI M s1 0 s0) fun M10 =>
  some M10
def F_Sys_findOffer_J108 (o : Nat) (u1 : Nat) (M : z_Mem) : Option (z_Mem) :=
  zb (F_Desk_ruleValue (o + 5) 2 M) fun x8 =>
  zl (z_wI M u1 18 ((M.1 (o + 5) 0) + x8)) fun M9 =>
  if (M9.1 u1 14) = (-1) then
    F_Sys_findOffer_J142 o 4 u1 M9
  else
    F_Sys_findOffer_J142 o 0 u1 M9
def F_Sys_findOffer_J64 (o : Nat) (rec2 : Nat → Int32 → Int32 → z_Mem → Option (z_Mem)) (u1 : Nat) (v2 : Int32) (v3 : Int32) (M : z_Mem) : Option (z_Mem) :=
  zl (z_wI M u1 14 v3) fun M11 =>
  zl (z_wI M11 u1 15 (M11.1 (o + 494) 0)) fun M12 =>
  zl (z_wI M12 u1 16 (M12.1 (o + 494) 1)) fun M13 =>
  zl (z_wI M13 u1 17 (M13.1 (o + 494) 2)) fun M14 =>
  zl (v3 + 1) fun x15 =>
  rec2 u1 v2 x15 M14
def F_Sys_findOffer_B2 (o : Nat) (rec2 : Nat → Int32 → Int32 → z_Mem → Option (z_Mem)) (u1 : Nat) (v2 : Int32) (v3 : Int32) (M : z_Mem) : Option (z_Mem) :=
  if (M.1 (o + 5) 3) ≤ v3 then
    F_Sys_findOffer_J108 o u1 M
  else
    if 4 ≤ v3 then
      F_Sys_findOffer_J108 o u1 M
    else
      if z_inb v3 4 then
      zl ((o + 5) + 4 + 3 * v3.toNatClampNeg) fun t1 =>
      zb2 (F_Insertion_findBest o t1 v2 M) fun x4 M3 =>
      if x4 = 0 then
        zl (v3 + 1) fun x5 =>
        rec2 u1 v2 x5 M3
      else
        if (M3.1 u1 14) = (-1) then
          F_Sys_findOffer_J64 o rec2 u1 v2 v3 M3
        else
          zb (F_Insertion_isBetterThan o (M3.1 u1 15) (M3.1 u1 16) M3) fun x6 =>
          if x6 = 0 then
            zl (v3 + 1) fun x7 =>
            rec2 u1 v2 x7 M3
          else
            F_Sys_findOffer_J64 o rec2 u1 v2 v3 M3
      else none
def F_Sys_findOffer_L2 (o : Nat) : Nat → Nat → Int32 → Int32 → z_Mem → Option (z_Mem)
  | 0, _, _, _, _ => none
  | n9 + 1, u1, v2, v3, M => F_Sys_findOffer_B2 o (F_Sys_findOffer_L2 o n9) u1 v2 v3 M
def F_Sys_findOffer (o : Nat) (r0 : Nat) (p1 : Int32) (M : z_Mem) : Option (z_Mem) :=
  F_Sys_findOffer_L2 o 10000 r0 p1 0 M
def F_Sys_ask (o : Nat) (p0 : Int32) (p1 : Int32) (p2 : Int32) (p3 : Int32) (p4 : Int32) (M : z_Mem) : Option (Int32 × z_Mem) :=
  zb (F_Sys_checkZone o p0 M) fun _ =>
  zb (F_Sys_checkZone o p1 M) fun _ =>
  zb (F_Sys_checkRange p2 1 6 M) fun _ =>
  zb (F_Sys_checkRange p3 0 600 M) fun _ =>
  zb (F_Sys_checkRange p4 0 200 M) fun _ =>
  if p0 = p1 then
    none
  else
    zl ((M.1 (o + 5) 4)) fun x1 =>
    if x1 < 0 then
      some ((-2), M)
    else
      if x1 < 24 then
        zb (F_History_note o (o + 5) M) fun M2 =>
        if z_inb x1 24 then
        zl ((o + 5) + 16 + 1 * x1.toNatClampNeg) fun t3 =>
        zb (F_Ride_begin t3 p0 p1 p2 p4 M2) fun M5 =>
        zl (z_wI M5 t3 4 ((M5.1 (o + 5) 0) + p3)) fun M6 =>
        zb (F_Desk_ruleValue (o + 5) 0 M6) fun x7 =>
        zl (z_wI M6 t3 5 ((M6.1 t3 4) + x7)) fun M8 =>
        zb (F_Town_wayMinutes (o + 3) p0 p1 M8) fun x9 =>
        zb (F_Ride_setDirect t3 x9 M8) fun M10 =>
        zl (z_wI M10 (o + 5) 4 ((M10.1 (o + 5) 4) + 1)) fun M11 =>
        zb (F_Sys_findOffer o t3 x1 M11) fun M12 =>
        some (x1, M12)
        else none
      else
        some ((-2), M)
def F_Sys_accept (o : Nat) (p0 : Int32) (M : z_Mem) : Option (Int32 × z_Mem) :=
  zb (F_Sys_existingRide o p0 M) fun t1 =>
  if (M.1 t1 0) = 0 then
    zb (F_Desk_hasTaxi (o + 5) (M.1 t1 14) M) fun x3 =>
    if x3 = 0 then
      some ((-2), M)
    else
      if z_inb (M.1 t1 14) 4 then
      zl ((o + 5) + 4 + 3 * (M.1 t1 14).toNatClampNeg) fun t4 =>
      zb2 (F_Insertion_findBest o t4 p0 M) fun x7 M6 =>
      if x7 = 0 then
        some ((-3), M6)
      else
        zb (F_History_note o (o + 5) M6) fun M8 =>
        zb (F_Desk_pickupOf p0 M8) fun x9 =>
        zb (F_Taxi_insertStop t4 (M8.1 (o + 494) 3) x9 M8) fun M10 =>
        zb (F_Desk_dropOf p0 M10) fun x11 =>
        zb (F_Taxi_insertStop t4 (M10.1 (o + 494) 4) x11 M10) fun M12 =>
        zl (z_wI M12 t1 0 1) fun M13 =>
        zl (z_wI M13 t1 9 (M13.1 t1 14)) fun M14 =>
        some ((M14.1 (o + 494) 1), M14)
      else none
  else
    some ((-2), M)
def F_Sys_absent (o : Nat) (p0 : Int32) (M : z_Mem) : Option (Int32 × z_Mem) :=
  zb (F_Sys_existingRide o p0 M) fun t1 =>
  if (M.1 t1 0) = 1 then
    if (M.1 t1 13) = 0 then
      zb (F_Desk_hasTaxi (o + 5) (M.1 t1 9) M) fun x3 =>
      if x3 = 0 then
        some ((-2), M)
      else
        zb (F_History_note o (o + 5) M) fun M4 =>
        if z_inb (M4.1 t1 9) 4 then
        zl ((o + 5) + 4 + 3 * (M4.1 t1 9).toNatClampNeg) fun t5 =>
        zb (F_Desk_dropOf p0 M4) fun x7 =>
        zb (F_Taxi_removeStop t5 x7 M4) fun M8 =>
        zl (z_wI M8 t1 13 1) fun M9 =>
        some ((M9.1 t5 7), M9)
        else none
    else
      some ((-2), M)
  else
    some ((-2), M)
def F_Sys_advance (o : Nat) (p0 : Int32) (M : z_Mem) : Option (Int32 × z_Mem) :=
  zb (F_Sys_checkRange p0 1 1440 M) fun _ =>
  if ((M.1 (o + 5) 0) + p0) ≤ 9999 then
    zb (F_History_note o (o + 5) M) fun M1 =>
    zb2 (F_Traffic_passMinutes o p0 M1) fun x3 M2 =>
    some (x3, M2)
  else
    some ((-2), M)
def F_Sys_tip (o : Nat) (p0 : Int32) (p1 : Int32) (M : z_Mem) : Option (Int32 × z_Mem) :=
  zb (F_Sys_existingTaxi o p0 M) fun t1 =>
  zb (F_Sys_checkRange p1 1 2000000000 M) fun _ =>
  if (M.1 t1 11) ≤ (2000000000 - p1) then
    zb (F_History_note o (o + 5) M) fun M3 =>
    zl (z_wI M3 t1 11 ((M3.1 t1 11) + p1)) fun M4 =>
    zl (z_wI M4 t1 12 ((M4.1 t1 12) + p1)) fun M5 =>
    some ((M5.1 t1 11), M5)
  else
    some ((-5), M)
