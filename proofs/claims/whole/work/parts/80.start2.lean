/-! ===== the start, closed ===== -/
theorem all_R2 : lAll R2 := ⟨e_wind, e_read, e_set, e_foot, e_type, e_wipe, e_fault, e_house, e_takes, e_judged, e_ends, e_queue, e_needs, e_fewest, e_turn, e_owed, e_broken, e_well, e_met, e_dry, e_sold, e_debt, e_owes, e_lost, e_church, e_likely, e_stone, e_sheet, e_lose, e_put, e_get, e_copy, e_write, e_count, e_digest⟩
theorem whole_start {p : Program} {e : Env} {s : State} {m : MethodId} {below : List Frame} {meth : Method} {c : Code} (l : Launch) (hflags : l.flags = flags0) {b L : Nat} {xs : Nat → Int32} (hL : L ≤ 3072) (C0 : lw_At p s m meth c b L xs) : W p l e room_1 s m #[Value.ref b] below meth c s.heap [] 0 0 (lw_Z below #[Value.ref b] s) (entryFrame m ([Value.ref b] : List Value).toArray 4) :=
  start_open start_a all_R2 l hL C0
