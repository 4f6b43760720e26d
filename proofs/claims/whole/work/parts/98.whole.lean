theorem wd_exists : ∃ P : wd_Mem → Prop, P wd_mem0 ∧ wd_Ops P := ⟨wd_rel, wd_rel0, op_type, op_clear, op_desk, op_task, op_why, op_must, op_tightens, op_puts, op_undo, op_wrap, op_grey, op_odds, op_keep, op_back, op_count⟩
theorem whole_start {p : Program} {e : Env} {s : State} {m : MethodId} {below : List Frame} {meth : Method} {c : Code} (l : Launch) (hflags : l.flags = flags0) {b L : Nat} {xs : Nat → Int32} (hL : L ≤ 2048) (C0 : lw_At p s m meth c b L xs) : W p l e room_1 s m #[Value.ref b] below meth c s.heap [] 0 0 (lw_Z below #[Value.ref b] s) (entryFrame m ([Value.ref b] : List Value).toArray 4) := by
  obtain ⟨P, h0, h⟩ := wd_exists
  exact whole_start_of h0 h l hL C0
