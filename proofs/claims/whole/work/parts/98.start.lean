theorem pure_all : ∃ (Rel : Nat → Nat → Sg → Sg → Prop) (INC : Int32 → Int32 → Nat → Sg → Prop) (INM : Int32 → Int32 → Sg → Prop), InitC INC ∧ InitM INM ∧ (∀ x y P σ τ, INC x y P σ → INM x y τ → Rel 0 P σ τ) ∧ StepOK Rel :=
  ⟨Rel, INC, INM, initC_ok, initM_ok, start_ok, fun _ _ _ _ h => Rel_up h, st_feed, st_end, st_send, st_rate, st_tick, st_renew, st_block, st_sender, st_receiver, st_delivered, st_unit, st_process, st_world⟩
theorem whole_start {p : Program} {e : Env} {s : State} {m : MethodId} {below : List Frame} {meth : Method} {c : Code} (l : Launch) {b L : Nat} {xs : Nat → Int32} (hL : L ≤ 386) (C0 : lw_At p s m meth c b L xs) : W p l e room_1 s m #[Value.ref b] below meth c s.heap [] 0 0 (lw_Z below #[Value.ref b] s) (entryFrame m ([Value.ref b] : List Value).toArray 4) := by
  obtain ⟨Rel, INC, INM, h1, h2, h3, h4⟩ := pure_all
  exact law_open l h1 h2 h3 h4 hL C0
