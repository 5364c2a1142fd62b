/-! ===== the graph: where the objects lie (by program) ===== -/
def g_Ride (G : z_Gr) (a : Nat) : Prop := (G.1 a = some (.inl 5))
theorem gRide_s {G : z_Gr} {a : Nat} (h : g_Ride G a) : G.1 a = some (.inl 5) := h
def g_Taxi (G : z_Gr) (a : Nat) : Prop := (G.1 a = some (.inl 6)) ∧ (G.2 a 9 = some (a + 1)) ∧ (G.1 (a + 1) = some (.inr (0, 12))) ∧ (G.2 a 10 = some (a + 2)) ∧ (G.1 (a + 2) = some (.inr (0, 6)))
theorem gTaxi_s {G : z_Gr} {a : Nat} (h : g_Taxi G a) : G.1 a = some (.inl 6) := h.1
theorem gTaxi_f9 {G : z_Gr} {a : Nat} (h : g_Taxi G a) : G.2 a 9 = some (a + 1) := h.2.1
theorem gTaxi_t9 {G : z_Gr} {a : Nat} (h : g_Taxi G a) : G.1 (a + 1) = some (.inr (0, 12)) := h.2.2.1
theorem gTaxi_f10 {G : z_Gr} {a : Nat} (h : g_Taxi G a) : G.2 a 10 = some (a + 2) := h.2.2.2.1
theorem gTaxi_t10 {G : z_Gr} {a : Nat} (h : g_Taxi G a) : G.1 (a + 2) = some (.inr (0, 6)) := h.2.2.2.2
def g_Town (G : z_Gr) (a : Nat) : Prop := (G.1 a = some (.inl 9)) ∧ (G.2 a 2 = some (a + 1)) ∧ (G.1 (a + 1) = some (.inr (0, 64)))
theorem gTown_s {G : z_Gr} {a : Nat} (h : g_Town G a) : G.1 a = some (.inl 9) := h.1
theorem gTown_f2 {G : z_Gr} {a : Nat} (h : g_Town G a) : G.2 a 2 = some (a + 1) := h.2.1
theorem gTown_t2 {G : z_Gr} {a : Nat} (h : g_Town G a) : G.1 (a + 1) = some (.inr (0, 64)) := h.2.2
def g_Desk (G : z_Gr) (a : Nat) : Prop := (G.1 a = some (.inl 0)) ∧ (G.2 a 5 = some (a + 1)) ∧ (G.1 (a + 1) = some (.inr (0, 10))) ∧ (G.2 a 6 = some (a + 2)) ∧ (G.1 (a + 2) = some (.inr (3, 4))) ∧ (∀ i, i < 4 → G.2 (a + 2) i = some (a + 4 + 3 * i)) ∧ (∀ i, i < 4 → g_Taxi G (a + 4 + 3 * i)) ∧ (G.2 a 7 = some (a + 3)) ∧ (G.1 (a + 3) = some (.inr (4, 24))) ∧ (∀ i, i < 24 → G.2 (a + 3) i = some (a + 16 + 1 * i)) ∧ (∀ i, i < 24 → g_Ride G (a + 16 + 1 * i))
theorem gDesk_s {G : z_Gr} {a : Nat} (h : g_Desk G a) : G.1 a = some (.inl 0) := h.1
theorem gDesk_f5 {G : z_Gr} {a : Nat} (h : g_Desk G a) : G.2 a 5 = some (a + 1) := h.2.1
theorem gDesk_t5 {G : z_Gr} {a : Nat} (h : g_Desk G a) : G.1 (a + 1) = some (.inr (0, 10)) := h.2.2.1
theorem gDesk_f6 {G : z_Gr} {a : Nat} (h : g_Desk G a) : G.2 a 6 = some (a + 2) := h.2.2.2.1
theorem gDesk_t6 {G : z_Gr} {a : Nat} (h : g_Desk G a) : G.1 (a + 2) = some (.inr (3, 4)) := h.2.2.2.2.1
theorem gDesk_e6 {G : z_Gr} {a : Nat} (h : g_Desk G a) : ∀ i, i < 4 → G.2 (a + 2) i = some (a + 4 + 3 * i) := h.2.2.2.2.2.1
theorem gDesk_k6 {G : z_Gr} {a : Nat} (h : g_Desk G a) : ∀ i, i < 4 → g_Taxi G (a + 4 + 3 * i) := h.2.2.2.2.2.2.1
theorem gDesk_f7 {G : z_Gr} {a : Nat} (h : g_Desk G a) : G.2 a 7 = some (a + 3) := h.2.2.2.2.2.2.2.1
theorem gDesk_t7 {G : z_Gr} {a : Nat} (h : g_Desk G a) : G.1 (a + 3) = some (.inr (4, 24)) := h.2.2.2.2.2.2.2.2.1
theorem gDesk_e7 {G : z_Gr} {a : Nat} (h : g_Desk G a) : ∀ i, i < 24 → G.2 (a + 3) i = some (a + 16 + 1 * i) := h.2.2.2.2.2.2.2.2.2.1
theorem gDesk_k7 {G : z_Gr} {a : Nat} (h : g_Desk G a) : ∀ i, i < 24 → g_Ride G (a + 16 + 1 * i) := h.2.2.2.2.2.2.2.2.2.2
def g_Law (G : z_Gr) (a : Nat) : Prop := (G.1 a = some (.inl 12)) ∧ (G.2 a 0 = some (a + 1)) ∧ (G.1 (a + 1) = some (.inr (0, 800)))
theorem gLaw_s {G : z_Gr} {a : Nat} (h : g_Law G a) : G.1 a = some (.inl 12) := h.1
theorem gLaw_f0 {G : z_Gr} {a : Nat} (h : g_Law G a) : G.2 a 0 = some (a + 1) := h.2.1
theorem gLaw_t0 {G : z_Gr} {a : Nat} (h : g_Law G a) : G.1 (a + 1) = some (.inr (0, 800)) := h.2.2
def g_Sys (G : z_Gr) (o : Nat) : Prop := (G.1 o = some (.inl 11)) ∧ (G.2 o 0 = some (o + 1)) ∧ (G.1 (o + 1) = some (.inr (1, 800))) ∧ (G.2 o 3 = some (o + 2)) ∧ (G.1 (o + 2) = some (.inr (1, 80))) ∧ (G.2 o 5 = some (o + 3)) ∧ (g_Town G (o + 3)) ∧ (G.2 o 6 = some (o + 5)) ∧ (g_Desk G (o + 5)) ∧ (G.2 o 7 = some (o + 45)) ∧ (G.2 o 8 = some (o + 447)) ∧ (g_Desk G (o + 447)) ∧ (G.2 o 10 = some (o + 487)) ∧ (G.2 o 11 = some (o + 494)) ∧ (G.2 o 12 = some (o + 495)) ∧ (G.2 o 13 = some (o + 499)) ∧ (G.2 o 14 = some (o + 504)) ∧ (G.2 o 15 = some (o + 547)) ∧ (G.1 (o + 45) = some (.inl 1)) ∧ (G.2 (o + 45) 2 = some (o + 46)) ∧ (G.1 (o + 46) = some (.inr (5, 10))) ∧ (∀ i, i < 10 → G.2 (o + 46) i = some (o + 47 + 40 * i)) ∧ (∀ i, i < 10 → g_Desk G (o + 47 + 40 * i)) ∧ (G.1 (o + 487) = some (.inl 3)) ∧ (G.2 (o + 487) 1 = some (o + 3)) ∧ (g_Town G (o + 3)) ∧ (G.2 (o + 487) 2 = some (o + 5)) ∧ (g_Desk G (o + 5)) ∧ (G.2 (o + 487) 5 = some (o + 488)) ∧ (G.1 (o + 488) = some (.inr (0, 12))) ∧ (G.2 (o + 487) 6 = some (o + 489)) ∧ (G.1 (o + 489) = some (.inr (0, 12))) ∧ (G.2 (o + 487) 7 = some (o + 490)) ∧ (G.1 (o + 490) = some (.inr (0, 12))) ∧ (G.2 (o + 487) 8 = some (o + 491)) ∧ (G.1 (o + 491) = some (.inr (0, 12))) ∧ (G.2 (o + 487) 9 = some (o + 492)) ∧ (G.1 (o + 492) = some (.inr (0, 12))) ∧ (G.2 (o + 487) 10 = some (o + 493)) ∧ (G.1 (o + 493) = some (.inr (0, 24))) ∧ (G.1 (o + 494) = some (.inl 2)) ∧ (G.2 (o + 494) 5 = some (o + 487)) ∧ (G.1 (o + 495) = some (.inl 10)) ∧ (G.2 (o + 495) 0 = some (o + 3)) ∧ (g_Town G (o + 3)) ∧ (G.2 (o + 495) 1 = some (o + 5)) ∧ (g_Desk G (o + 5)) ∧ (G.2 (o + 495) 2 = some (o + 487)) ∧ (G.2 (o + 495) 3 = some (o + 496)) ∧ (g_Taxi G (o + 496)) ∧ (G.1 (o + 499) = some (.inl 8)) ∧ (G.2 (o + 499) 2 = some (o + 1)) ∧ (G.1 (o + 1) = some (.inr (1, 800))) ∧ (G.2 (o + 499) 3 = some (o + 500)) ∧ (G.1 (o + 500) = some (.inr (0, 801))) ∧ (G.2 (o + 499) 4 = some (o + 501)) ∧ (G.1 (o + 501) = some (.inr (0, 801))) ∧ (G.2 (o + 499) 5 = some (o + 502)) ∧ (G.1 (o + 502) = some (.inr (0, 801))) ∧ (G.2 (o + 499) 6 = some (o + 503)) ∧ (G.1 (o + 503) = some (.inr (0, 801))) ∧ (G.1 (o + 504) = some (.inl 7)) ∧ (G.2 (o + 504) 0 = some (o + 505)) ∧ (g_Town G (o + 505)) ∧ (G.2 (o + 504) 1 = some (o + 507)) ∧ (g_Desk G (o + 507)) ∧ (G.2 (o + 504) 2 = some (o + 499)) ∧ (G.1 (o + 547) = some (.inl 4)) ∧ (G.2 (o + 547) 0 = some (o + 499)) ∧ (G.2 (o + 547) 1 = some (o + 5)) ∧ (g_Desk G (o + 5))
theorem gSys_s {G : z_Gr} {o : Nat} (h : g_Sys G o) : G.1 o = some (.inl 11) := h.1
theorem gSys_f0 {G : z_Gr} {o : Nat} (h : g_Sys G o) : G.2 o 0 = some (o + 1) := h.2.1
theorem gSys_t0 {G : z_Gr} {o : Nat} (h : g_Sys G o) : G.1 (o + 1) = some (.inr (1, 800)) := h.2.2.1
theorem gSys_f3 {G : z_Gr} {o : Nat} (h : g_Sys G o) : G.2 o 3 = some (o + 2) := h.2.2.2.1
theorem gSys_t3 {G : z_Gr} {o : Nat} (h : g_Sys G o) : G.1 (o + 2) = some (.inr (1, 80)) := h.2.2.2.2.1
theorem gSys_f5 {G : z_Gr} {o : Nat} (h : g_Sys G o) : G.2 o 5 = some (o + 3) := h.2.2.2.2.2.1
theorem gSys_t5 {G : z_Gr} {o : Nat} (h : g_Sys G o) : g_Town G (o + 3) := h.2.2.2.2.2.2.1
theorem gSys_f6 {G : z_Gr} {o : Nat} (h : g_Sys G o) : G.2 o 6 = some (o + 5) := h.2.2.2.2.2.2.2.1
theorem gSys_t6 {G : z_Gr} {o : Nat} (h : g_Sys G o) : g_Desk G (o + 5) := h.2.2.2.2.2.2.2.2.1
theorem gSys_f7 {G : z_Gr} {o : Nat} (h : g_Sys G o) : G.2 o 7 = some (o + 45) := h.2.2.2.2.2.2.2.2.2.1
theorem gSys_f8 {G : z_Gr} {o : Nat} (h : g_Sys G o) : G.2 o 8 = some (o + 447) := h.2.2.2.2.2.2.2.2.2.2.1
theorem gSys_t8 {G : z_Gr} {o : Nat} (h : g_Sys G o) : g_Desk G (o + 447) := h.2.2.2.2.2.2.2.2.2.2.2.1
theorem gSys_f10 {G : z_Gr} {o : Nat} (h : g_Sys G o) : G.2 o 10 = some (o + 487) := h.2.2.2.2.2.2.2.2.2.2.2.2.1
theorem gSys_f11 {G : z_Gr} {o : Nat} (h : g_Sys G o) : G.2 o 11 = some (o + 494) := h.2.2.2.2.2.2.2.2.2.2.2.2.2.1
theorem gSys_f12 {G : z_Gr} {o : Nat} (h : g_Sys G o) : G.2 o 12 = some (o + 495) := h.2.2.2.2.2.2.2.2.2.2.2.2.2.2.1
theorem gSys_f13 {G : z_Gr} {o : Nat} (h : g_Sys G o) : G.2 o 13 = some (o + 499) := h.2.2.2.2.2.2.2.2.2.2.2.2.2.2.2.1
theorem gSys_f14 {G : z_Gr} {o : Nat} (h : g_Sys G o) : G.2 o 14 = some (o + 504) := h.2.2.2.2.2.2.2.2.2.2.2.2.2.2.2.2.1
theorem gSys_f15 {G : z_Gr} {o : Nat} (h : g_Sys G o) : G.2 o 15 = some (o + 547) := h.2.2.2.2.2.2.2.2.2.2.2.2.2.2.2.2.2.1
theorem gHistory_s {G : z_Gr} {o : Nat} (h : g_Sys G o) : G.1 (o + 45) = some (.inl 1) := h.2.2.2.2.2.2.2.2.2.2.2.2.2.2.2.2.2.2.1
theorem gHistory_f2 {G : z_Gr} {o : Nat} (h : g_Sys G o) : G.2 (o + 45) 2 = some (o + 46) := h.2.2.2.2.2.2.2.2.2.2.2.2.2.2.2.2.2.2.2.1
theorem gHistory_t2 {G : z_Gr} {o : Nat} (h : g_Sys G o) : G.1 (o + 46) = some (.inr (5, 10)) := h.2.2.2.2.2.2.2.2.2.2.2.2.2.2.2.2.2.2.2.2.1
theorem gHistory_e2 {G : z_Gr} {o : Nat} (h : g_Sys G o) : ∀ i, i < 10 → G.2 (o + 46) i = some (o + 47 + 40 * i) := h.2.2.2.2.2.2.2.2.2.2.2.2.2.2.2.2.2.2.2.2.2.1
theorem gHistory_k2 {G : z_Gr} {o : Nat} (h : g_Sys G o) : ∀ i, i < 10 → g_Desk G (o + 47 + 40 * i) := h.2.2.2.2.2.2.2.2.2.2.2.2.2.2.2.2.2.2.2.2.2.2.1
theorem gPlan_s {G : z_Gr} {o : Nat} (h : g_Sys G o) : G.1 (o + 487) = some (.inl 3) := h.2.2.2.2.2.2.2.2.2.2.2.2.2.2.2.2.2.2.2.2.2.2.2.1
theorem gPlan_f1 {G : z_Gr} {o : Nat} (h : g_Sys G o) : G.2 (o + 487) 1 = some (o + 3) := h.2.2.2.2.2.2.2.2.2.2.2.2.2.2.2.2.2.2.2.2.2.2.2.2.1
theorem gPlan_t1 {G : z_Gr} {o : Nat} (h : g_Sys G o) : g_Town G (o + 3) := h.2.2.2.2.2.2.2.2.2.2.2.2.2.2.2.2.2.2.2.2.2.2.2.2.2.1
theorem gPlan_f2 {G : z_Gr} {o : Nat} (h : g_Sys G o) : G.2 (o + 487) 2 = some (o + 5) := h.2.2.2.2.2.2.2.2.2.2.2.2.2.2.2.2.2.2.2.2.2.2.2.2.2.2.1
theorem gPlan_t2 {G : z_Gr} {o : Nat} (h : g_Sys G o) : g_Desk G (o + 5) := h.2.2.2.2.2.2.2.2.2.2.2.2.2.2.2.2.2.2.2.2.2.2.2.2.2.2.2.1
theorem gPlan_f5 {G : z_Gr} {o : Nat} (h : g_Sys G o) : G.2 (o + 487) 5 = some (o + 488) := h.2.2.2.2.2.2.2.2.2.2.2.2.2.2.2.2.2.2.2.2.2.2.2.2.2.2.2.2.1
theorem gPlan_t5 {G : z_Gr} {o : Nat} (h : g_Sys G o) : G.1 (o + 488) = some (.inr (0, 12)) := h.2.2.2.2.2.2.2.2.2.2.2.2.2.2.2.2.2.2.2.2.2.2.2.2.2.2.2.2.2.1
theorem gPlan_f6 {G : z_Gr} {o : Nat} (h : g_Sys G o) : G.2 (o + 487) 6 = some (o + 489) := h.2.2.2.2.2.2.2.2.2.2.2.2.2.2.2.2.2.2.2.2.2.2.2.2.2.2.2.2.2.2.1
theorem gPlan_t6 {G : z_Gr} {o : Nat} (h : g_Sys G o) : G.1 (o + 489) = some (.inr (0, 12)) := h.2.2.2.2.2.2.2.2.2.2.2.2.2.2.2.2.2.2.2.2.2.2.2.2.2.2.2.2.2.2.2.1
theorem gPlan_f7 {G : z_Gr} {o : Nat} (h : g_Sys G o) : G.2 (o + 487) 7 = some (o + 490) := h.2.2.2.2.2.2.2.2.2.2.2.2.2.2.2.2.2.2.2.2.2.2.2.2.2.2.2.2.2.2.2.2.1
theorem gPlan_t7 {G : z_Gr} {o : Nat} (h : g_Sys G o) : G.1 (o + 490) = some (.inr (0, 12)) := h.2.2.2.2.2.2.2.2.2.2.2.2.2.2.2.2.2.2.2.2.2.2.2.2.2.2.2.2.2.2.2.2.2.1
theorem gPlan_f8 {G : z_Gr} {o : Nat} (h : g_Sys G o) : G.2 (o + 487) 8 = some (o + 491) := h.2.2.2.2.2.2.2.2.2.2.2.2.2.2.2.2.2.2.2.2.2.2.2.2.2.2.2.2.2.2.2.2.2.2.1
theorem gPlan_t8 {G : z_Gr} {o : Nat} (h : g_Sys G o) : G.1 (o + 491) = some (.inr (0, 12)) := h.2.2.2.2.2.2.2.2.2.2.2.2.2.2.2.2.2.2.2.2.2.2.2.2.2.2.2.2.2.2.2.2.2.2.2.1
theorem gPlan_f9 {G : z_Gr} {o : Nat} (h : g_Sys G o) : G.2 (o + 487) 9 = some (o + 492) := h.2.2.2.2.2.2.2.2.2.2.2.2.2.2.2.2.2.2.2.2.2.2.2.2.2.2.2.2.2.2.2.2.2.2.2.2.1
theorem gPlan_t9 {G : z_Gr} {o : Nat} (h : g_Sys G o) : G.1 (o + 492) = some (.inr (0, 12)) := h.2.2.2.2.2.2.2.2.2.2.2.2.2.2.2.2.2.2.2.2.2.2.2.2.2.2.2.2.2.2.2.2.2.2.2.2.2.1
theorem gPlan_f10 {G : z_Gr} {o : Nat} (h : g_Sys G o) : G.2 (o + 487) 10 = some (o + 493) := h.2.2.2.2.2.2.2.2.2.2.2.2.2.2.2.2.2.2.2.2.2.2.2.2.2.2.2.2.2.2.2.2.2.2.2.2.2.2.1
theorem gPlan_t10 {G : z_Gr} {o : Nat} (h : g_Sys G o) : G.1 (o + 493) = some (.inr (0, 24)) := h.2.2.2.2.2.2.2.2.2.2.2.2.2.2.2.2.2.2.2.2.2.2.2.2.2.2.2.2.2.2.2.2.2.2.2.2.2.2.2.1
theorem gInsertion_s {G : z_Gr} {o : Nat} (h : g_Sys G o) : G.1 (o + 494) = some (.inl 2) := h.2.2.2.2.2.2.2.2.2.2.2.2.2.2.2.2.2.2.2.2.2.2.2.2.2.2.2.2.2.2.2.2.2.2.2.2.2.2.2.2.1
theorem gInsertion_f5 {G : z_Gr} {o : Nat} (h : g_Sys G o) : G.2 (o + 494) 5 = some (o + 487) := h.2.2.2.2.2.2.2.2.2.2.2.2.2.2.2.2.2.2.2.2.2.2.2.2.2.2.2.2.2.2.2.2.2.2.2.2.2.2.2.2.2.1
theorem gTraffic_s {G : z_Gr} {o : Nat} (h : g_Sys G o) : G.1 (o + 495) = some (.inl 10) := h.2.2.2.2.2.2.2.2.2.2.2.2.2.2.2.2.2.2.2.2.2.2.2.2.2.2.2.2.2.2.2.2.2.2.2.2.2.2.2.2.2.2.1
theorem gTraffic_f0 {G : z_Gr} {o : Nat} (h : g_Sys G o) : G.2 (o + 495) 0 = some (o + 3) := h.2.2.2.2.2.2.2.2.2.2.2.2.2.2.2.2.2.2.2.2.2.2.2.2.2.2.2.2.2.2.2.2.2.2.2.2.2.2.2.2.2.2.2.1
theorem gTraffic_t0 {G : z_Gr} {o : Nat} (h : g_Sys G o) : g_Town G (o + 3) := h.2.2.2.2.2.2.2.2.2.2.2.2.2.2.2.2.2.2.2.2.2.2.2.2.2.2.2.2.2.2.2.2.2.2.2.2.2.2.2.2.2.2.2.2.1
theorem gTraffic_f1 {G : z_Gr} {o : Nat} (h : g_Sys G o) : G.2 (o + 495) 1 = some (o + 5) := h.2.2.2.2.2.2.2.2.2.2.2.2.2.2.2.2.2.2.2.2.2.2.2.2.2.2.2.2.2.2.2.2.2.2.2.2.2.2.2.2.2.2.2.2.2.1
theorem gTraffic_t1 {G : z_Gr} {o : Nat} (h : g_Sys G o) : g_Desk G (o + 5) := h.2.2.2.2.2.2.2.2.2.2.2.2.2.2.2.2.2.2.2.2.2.2.2.2.2.2.2.2.2.2.2.2.2.2.2.2.2.2.2.2.2.2.2.2.2.2.1
theorem gTraffic_f2 {G : z_Gr} {o : Nat} (h : g_Sys G o) : G.2 (o + 495) 2 = some (o + 487) := h.2.2.2.2.2.2.2.2.2.2.2.2.2.2.2.2.2.2.2.2.2.2.2.2.2.2.2.2.2.2.2.2.2.2.2.2.2.2.2.2.2.2.2.2.2.2.2.1
theorem gTraffic_f3 {G : z_Gr} {o : Nat} (h : g_Sys G o) : G.2 (o + 495) 3 = some (o + 496) := h.2.2.2.2.2.2.2.2.2.2.2.2.2.2.2.2.2.2.2.2.2.2.2.2.2.2.2.2.2.2.2.2.2.2.2.2.2.2.2.2.2.2.2.2.2.2.2.2.1
theorem gTraffic_t3 {G : z_Gr} {o : Nat} (h : g_Sys G o) : g_Taxi G (o + 496) := h.2.2.2.2.2.2.2.2.2.2.2.2.2.2.2.2.2.2.2.2.2.2.2.2.2.2.2.2.2.2.2.2.2.2.2.2.2.2.2.2.2.2.2.2.2.2.2.2.2.1
theorem gTokens_s {G : z_Gr} {o : Nat} (h : g_Sys G o) : G.1 (o + 499) = some (.inl 8) := h.2.2.2.2.2.2.2.2.2.2.2.2.2.2.2.2.2.2.2.2.2.2.2.2.2.2.2.2.2.2.2.2.2.2.2.2.2.2.2.2.2.2.2.2.2.2.2.2.2.2.1
theorem gTokens_f2 {G : z_Gr} {o : Nat} (h : g_Sys G o) : G.2 (o + 499) 2 = some (o + 1) := h.2.2.2.2.2.2.2.2.2.2.2.2.2.2.2.2.2.2.2.2.2.2.2.2.2.2.2.2.2.2.2.2.2.2.2.2.2.2.2.2.2.2.2.2.2.2.2.2.2.2.2.1
theorem gTokens_t2 {G : z_Gr} {o : Nat} (h : g_Sys G o) : G.1 (o + 1) = some (.inr (1, 800)) := h.2.2.2.2.2.2.2.2.2.2.2.2.2.2.2.2.2.2.2.2.2.2.2.2.2.2.2.2.2.2.2.2.2.2.2.2.2.2.2.2.2.2.2.2.2.2.2.2.2.2.2.2.1
theorem gTokens_f3 {G : z_Gr} {o : Nat} (h : g_Sys G o) : G.2 (o + 499) 3 = some (o + 500) := h.2.2.2.2.2.2.2.2.2.2.2.2.2.2.2.2.2.2.2.2.2.2.2.2.2.2.2.2.2.2.2.2.2.2.2.2.2.2.2.2.2.2.2.2.2.2.2.2.2.2.2.2.2.1
theorem gTokens_t3 {G : z_Gr} {o : Nat} (h : g_Sys G o) : G.1 (o + 500) = some (.inr (0, 801)) := h.2.2.2.2.2.2.2.2.2.2.2.2.2.2.2.2.2.2.2.2.2.2.2.2.2.2.2.2.2.2.2.2.2.2.2.2.2.2.2.2.2.2.2.2.2.2.2.2.2.2.2.2.2.2.1
theorem gTokens_f4 {G : z_Gr} {o : Nat} (h : g_Sys G o) : G.2 (o + 499) 4 = some (o + 501) := h.2.2.2.2.2.2.2.2.2.2.2.2.2.2.2.2.2.2.2.2.2.2.2.2.2.2.2.2.2.2.2.2.2.2.2.2.2.2.2.2.2.2.2.2.2.2.2.2.2.2.2.2.2.2.2.1
theorem gTokens_t4 {G : z_Gr} {o : Nat} (h : g_Sys G o) : G.1 (o + 501) = some (.inr (0, 801)) := h.2.2.2.2.2.2.2.2.2.2.2.2.2.2.2.2.2.2.2.2.2.2.2.2.2.2.2.2.2.2.2.2.2.2.2.2.2.2.2.2.2.2.2.2.2.2.2.2.2.2.2.2.2.2.2.2.1
theorem gTokens_f5 {G : z_Gr} {o : Nat} (h : g_Sys G o) : G.2 (o + 499) 5 = some (o + 502) := h.2.2.2.2.2.2.2.2.2.2.2.2.2.2.2.2.2.2.2.2.2.2.2.2.2.2.2.2.2.2.2.2.2.2.2.2.2.2.2.2.2.2.2.2.2.2.2.2.2.2.2.2.2.2.2.2.2.1
theorem gTokens_t5 {G : z_Gr} {o : Nat} (h : g_Sys G o) : G.1 (o + 502) = some (.inr (0, 801)) := h.2.2.2.2.2.2.2.2.2.2.2.2.2.2.2.2.2.2.2.2.2.2.2.2.2.2.2.2.2.2.2.2.2.2.2.2.2.2.2.2.2.2.2.2.2.2.2.2.2.2.2.2.2.2.2.2.2.2.1
theorem gTokens_f6 {G : z_Gr} {o : Nat} (h : g_Sys G o) : G.2 (o + 499) 6 = some (o + 503) := h.2.2.2.2.2.2.2.2.2.2.2.2.2.2.2.2.2.2.2.2.2.2.2.2.2.2.2.2.2.2.2.2.2.2.2.2.2.2.2.2.2.2.2.2.2.2.2.2.2.2.2.2.2.2.2.2.2.2.2.1
theorem gTokens_t6 {G : z_Gr} {o : Nat} (h : g_Sys G o) : G.1 (o + 503) = some (.inr (0, 801)) := h.2.2.2.2.2.2.2.2.2.2.2.2.2.2.2.2.2.2.2.2.2.2.2.2.2.2.2.2.2.2.2.2.2.2.2.2.2.2.2.2.2.2.2.2.2.2.2.2.2.2.2.2.2.2.2.2.2.2.2.2.1
theorem gTextReader_s {G : z_Gr} {o : Nat} (h : g_Sys G o) : G.1 (o + 504) = some (.inl 7) := h.2.2.2.2.2.2.2.2.2.2.2.2.2.2.2.2.2.2.2.2.2.2.2.2.2.2.2.2.2.2.2.2.2.2.2.2.2.2.2.2.2.2.2.2.2.2.2.2.2.2.2.2.2.2.2.2.2.2.2.2.2.1
theorem gTextReader_f0 {G : z_Gr} {o : Nat} (h : g_Sys G o) : G.2 (o + 504) 0 = some (o + 505) := h.2.2.2.2.2.2.2.2.2.2.2.2.2.2.2.2.2.2.2.2.2.2.2.2.2.2.2.2.2.2.2.2.2.2.2.2.2.2.2.2.2.2.2.2.2.2.2.2.2.2.2.2.2.2.2.2.2.2.2.2.2.2.1
theorem gTextReader_t0 {G : z_Gr} {o : Nat} (h : g_Sys G o) : g_Town G (o + 505) := h.2.2.2.2.2.2.2.2.2.2.2.2.2.2.2.2.2.2.2.2.2.2.2.2.2.2.2.2.2.2.2.2.2.2.2.2.2.2.2.2.2.2.2.2.2.2.2.2.2.2.2.2.2.2.2.2.2.2.2.2.2.2.2.1
theorem gTextReader_f1 {G : z_Gr} {o : Nat} (h : g_Sys G o) : G.2 (o + 504) 1 = some (o + 507) := h.2.2.2.2.2.2.2.2.2.2.2.2.2.2.2.2.2.2.2.2.2.2.2.2.2.2.2.2.2.2.2.2.2.2.2.2.2.2.2.2.2.2.2.2.2.2.2.2.2.2.2.2.2.2.2.2.2.2.2.2.2.2.2.2.1
theorem gTextReader_t1 {G : z_Gr} {o : Nat} (h : g_Sys G o) : g_Desk G (o + 507) := h.2.2.2.2.2.2.2.2.2.2.2.2.2.2.2.2.2.2.2.2.2.2.2.2.2.2.2.2.2.2.2.2.2.2.2.2.2.2.2.2.2.2.2.2.2.2.2.2.2.2.2.2.2.2.2.2.2.2.2.2.2.2.2.2.2.1
theorem gTextReader_f2 {G : z_Gr} {o : Nat} (h : g_Sys G o) : G.2 (o + 504) 2 = some (o + 499) := h.2.2.2.2.2.2.2.2.2.2.2.2.2.2.2.2.2.2.2.2.2.2.2.2.2.2.2.2.2.2.2.2.2.2.2.2.2.2.2.2.2.2.2.2.2.2.2.2.2.2.2.2.2.2.2.2.2.2.2.2.2.2.2.2.2.2.1
theorem gQueryReader_s {G : z_Gr} {o : Nat} (h : g_Sys G o) : G.1 (o + 547) = some (.inl 4) := h.2.2.2.2.2.2.2.2.2.2.2.2.2.2.2.2.2.2.2.2.2.2.2.2.2.2.2.2.2.2.2.2.2.2.2.2.2.2.2.2.2.2.2.2.2.2.2.2.2.2.2.2.2.2.2.2.2.2.2.2.2.2.2.2.2.2.2.1
theorem gQueryReader_f0 {G : z_Gr} {o : Nat} (h : g_Sys G o) : G.2 (o + 547) 0 = some (o + 499) := h.2.2.2.2.2.2.2.2.2.2.2.2.2.2.2.2.2.2.2.2.2.2.2.2.2.2.2.2.2.2.2.2.2.2.2.2.2.2.2.2.2.2.2.2.2.2.2.2.2.2.2.2.2.2.2.2.2.2.2.2.2.2.2.2.2.2.2.2.1
theorem gQueryReader_f1 {G : z_Gr} {o : Nat} (h : g_Sys G o) : G.2 (o + 547) 1 = some (o + 5) := h.2.2.2.2.2.2.2.2.2.2.2.2.2.2.2.2.2.2.2.2.2.2.2.2.2.2.2.2.2.2.2.2.2.2.2.2.2.2.2.2.2.2.2.2.2.2.2.2.2.2.2.2.2.2.2.2.2.2.2.2.2.2.2.2.2.2.2.2.2.1
theorem gQueryReader_t1 {G : z_Gr} {o : Nat} (h : g_Sys G o) : g_Desk G (o + 5) := h.2.2.2.2.2.2.2.2.2.2.2.2.2.2.2.2.2.2.2.2.2.2.2.2.2.2.2.2.2.2.2.2.2.2.2.2.2.2.2.2.2.2.2.2.2.2.2.2.2.2.2.2.2.2.2.2.2.2.2.2.2.2.2.2.2.2.2.2.2.2
theorem z_lt {i : Int32} {N : Nat} (h : z_inb i N) : i.toNatClampNeg < N := Nat.not_le.mp fun q => h (Or.inr q)
