/-! the end of the law -/
abbrev nwA (s : State) : Nat → Prop := fun q => s.heap.size ≤ q
set_option maxRecDepth 100000 in
theorem L_fin {p : Program} {l : Launch} {e : Env} {s : State} {m : MethodId} {below : List Frame} {meth : Method} {c : Code} {cells slots b L : Nat} {xs : Nat → Int32} {w : WP} (C0 : lw_At p s m meth c b L xs) (K : LX p room_1 s m #[Value.ref b] c cells slots w (nwA s)) (h1 : cells ≤ 601024) (h2 : slots ≤ 7293034) {ls : List MV} {h : MH} :
    Wt p l e room_1 s m #[Value.ref b] below meth c cells slots (lw_Z below #[Value.ref b] s) w (nwA s) nMe 2104 ls [] h := by
  obtain ⟨hx, hb, hr, hml, hown, hts, hX, hbl, hlocks, hgv⟩ := id C0
  refine L_iconst K (by decide +kernel : fetch nMe 2104 = some (.iconst 1, 1)) (v := 1) (by decide) rfl ?_
  intro lsA H locs a1 a2 a3 a4 a5
  have e1 : [(.inl 1 : MV)].map (val w) = [.int 1] := by
    show [Value.int (Int32.ofInt 1)] = _
    rfl
  rw [e1]
  refine va_forget (fun q hq => a5.2.2.1.2.2 q hq) ?_
  refine W.widen h1 h2 ?_
  exact lw_ret hx hb hr hlocks (by decide +kernel : decode code 2105 = .ok (.ireturn, 1))
