/-- every call of the script -/
theorem p_step : ∀ k : Nat, 5 * k + 5 ≤ 2560 → ∀ ux um : St, R ux um → ∀ o b c d e : Int32, LStp R (o &&& 31) b c d e ux um := by
  intro k hk ux um h o b c d e
  generalize o &&& 31 = x
  exact ⟨fun _ => (op_piece h b c d).runs, fun _ => (op_as h b c).runs, fun _ => (op_about h b c).runs, fun _ => (op_wear h b c).runs, fun _ => (op_bare h b).runs, fun _ => (op_look h b c).runs, fun _ => (op_limit h b).runs, fun _ => sf_allowed h b c d, fun _ => sf_told h b c d e, fun _ => sf_seconds h b c d e, fun _ => sf_best h b c d e, fun _ => (op_shift h b c d e).runs, fun _ => (op_less h).runs, fun _ => (op_way h b c d).runs, fun _ => sf_fits h b, fun _ => sf_dressers h, fun _ => (op_worn h b).runs, fun _ => (op_wash h b).runs, fun _ => op_hours h b, fun _ => sf_tonight h b c, fun _ => op_tell h b, fun _ => sf_check h b c d, fun _ => op_count h b, fun _ => op_found h b, fun _ _ _ _ _ _ _ _ _ _ _ _ _ _ _ _ _ _ _ _ _ _ _ _ => h⟩
/-- THE LAW, from its entry -/
theorem whole_start {p : Program} {e : Env} {s : State} {m : MethodId} {below : List Frame} {meth : Method} {c : Code} (l : Launch) {b L : Nat} {xs : Nat → Int32} (hL : L ≤ 2560) (C0 : lw_At p s m meth c b L xs) : W p l e room_1 s m #[Value.ref b] below meth c s.heap [] 0 0 (lw_Z below #[Value.ref b] s) (entryFrame m ([Value.ref b] : List Value).toArray 4) := whole_of (fun _ => R) R0 p_step l hL C0
