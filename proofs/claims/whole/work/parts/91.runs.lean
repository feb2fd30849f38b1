theorem law_runs {b L : Nat} {xs : Nat → Int32} (hL : L ≤ 3072) : ∃ n, cf_L_law_L18 b L xs (fun x _ => x = 1) n 0 st_w0 := by
  sorry
theorem whole_start {p : Program} {e : Env} {s : State} {m : MethodId} {below : List Frame} {meth : Method} {c : Code} (l : Launch) (hflags : l.flags = flags0) {b L : Nat} {xs : Nat → Int32} (hL : L ≤ 3072) (C0 : lw_At p s m meth c b L xs) : W p l e room_1 s m #[Value.ref b] below meth c s.heap [] 0 0 (lw_Z below #[Value.ref b] s) (entryFrame m ([Value.ref b] : List Value).toArray 4) :=
  st_start l (law_runs hL) C0
