/-! ===== what the methods that answer an object answer ===== -/
theorem fr_Desk_rideAt {G : z_Gr} {a : Nat} (ha : g_Desk G a) {p0 : Int32} {M : z_Mem} {r : Nat} (h : F_Desk_rideAt a p0 M = some r) : g_Ride G r := by
  have hJ : ∀ s0, F_Desk_rideAt_J19 a s0 M = some r → g_Ride G r := by
    intro s0 h
    unfold F_Desk_rideAt_J19 zl at h
    by_cases hi : z_inb s0 24
    · rw [if_pos hi] at h
      cases Option.some.inj h
      exact gDesk_k7 ha _ (z_lt hi)
    · rw [if_neg hi] at h; cases h
  unfold F_Desk_rideAt F_Desk_rideAt_J18 at h
  split at h
  · exact hJ _ h
  · split at h
    · exact hJ _ h
    · exact hJ _ h
theorem fr_Sys_existingTaxi {G : z_Gr} {o : Nat} (hG : g_Sys G o) {p0 : Int32} {M : z_Mem} {r : Nat} (h : F_Sys_existingTaxi o p0 M = some r) : g_Taxi G r := by
  unfold F_Sys_existingTaxi at h
  obtain ⟨x, -, h⟩ := zb_some h
  split at h
  · cases h
  · unfold zl at h
    by_cases hi : z_inb p0 4
    · rw [if_pos hi] at h
      cases Option.some.inj h
      exact gDesk_k6 (gSys_t6 hG) _ (z_lt hi)
    · rw [if_neg hi] at h; cases h
theorem fr_Sys_existingRide {G : z_Gr} {o : Nat} (hG : g_Sys G o) {p0 : Int32} {M : z_Mem} {r : Nat} (h : F_Sys_existingRide o p0 M = some r) : g_Ride G r := by
  unfold F_Sys_existingRide F_Sys_existingRide_J21 zl at h
  split at h
  · cases h
  · split at h
    · cases h
    · split at h
      · by_cases hi : z_inb p0 24
        · rw [if_pos hi] at h
          cases Option.some.inj h
          exact gDesk_k7 (gSys_t6 hG) _ (z_lt hi)
        · rw [if_neg hi] at h; cases h
      · cases h
