/-! decades -/
theorem lu_b (x : Int) : 0 ≤ lUshr x 33 ∧ lUshr x 33 < 2147483648 := by
  have e : lUshr x 33 = ((BitVec.ofInt 64 x) >>> (33 : Nat)).toInt := by
    show (((Int64.ofInt x).toUInt64 >>> ((Int32.ofInt 33).toInt64.toUInt64 &&& Int64.toUInt64 63)).toBitVec).toInt = _
    rw [show ((Int32.ofInt 33).toInt64.toUInt64 &&& Int64.toUInt64 63) = (33 : UInt64) by decide, UInt64.toBitVec_shiftRight]
    rfl
  have hl : ((BitVec.ofInt 64 x) >>> (33 : Nat)).toNat < 2147483648 := by
    rw [BitVec.toNat_ushiftRight, Nat.shiftRight_eq_div_pow]
    have := (BitVec.ofInt 64 x).isLt
    omega
  rw [e, BitVec.toInt_eq_toNat_of_lt (by omega)]
  omega
def tuF (x : Int) : Int := wL (wL (x * 6364136223846793005) + 1442695040888963407)
def dwF (x m : Int) : Int := wI ((lUshr x 33).tmod m)
theorem dw_b (x : Int) {m : Int} (h0 : 1 ≤ m) (h1 : m ≤ 1000) : 0 ≤ dwF x m ∧ dwF x m < m := by
  have b := lu_b x
  unfold dwF
  rw [Int.tmod_eq_emod_of_nonneg b.1]
  have e1 := Int.emod_nonneg (lUshr x 33) (show m ≠ 0 by omega)
  have e2 := Int.emod_lt_of_pos (lUshr x 33) (show 0 < m by omega)
  rw [wI_ok (by omega) (by omega)]
  exact ⟨e1, e2⟩
theorem e_turned (d : Nat) (x : Int) (h : MH) : Run d 103 0 [.inr (.inl x), vU] [] h = some (some (.inr (.inl (tuF x))), h) := q103_0 d x h
theorem e_drawn (d : Nat) (x m : Int) (h : MH) (hm : 1 ≤ m) : Run d 104 0 [.inr (.inl x), vU, .inl m] [] h = some (some (.inl (dwF x m)), h) := by
  rw [q104_0, if_pos hm, if_neg (by omega)]
  rfl
theorem m_draw (d : Nat) (m : Int) (h : MH) (hm : 1 ≤ m) : Run d 249 0 [vR 97, .inl m] [] h = some (some (.inl (dwF (tuF (h 97 38)) m)), up h 97 38 (tuF (h 97 38))) := by
  rw [q249_0, if_neg (by omega), up_s]
  rfl
/-- the news that can be said -/
noncomputable def sayF (known br : Int) : Nat → Int
  | 0 => 0
  | k + 1 => if iAnd (iShr known (k : Int)) 1 = 0 then sayF known br k else if br ≤ bcF (sayF known br k) then sayF known br k else iOr (sayF known br k) (iShl 1 (k : Int))
theorem say_b (known br : Int) : ∀ k, k ≤ 6 → 0 ≤ sayF known br k ∧ sayF known br k < 2 ^ 6
  | 0, _ => by unfold sayF; omega
  | k + 1, h => by
    have ih := say_b known br k (by omega)
    unfold sayF
    split
    · exact ih
    · split
      · exact ih
      · have sl := shl_le (k := (k : Int)) (n := 6) (by omega) (by omega) (by omega)
        exact or_le (by omega) ih.1 ih.2 sl.1 sl.2
theorem e_allSayable (d : Nat) (k : Int) (h : MH) (hk0 : 0 ≤ k) (hk1 : k < 5) (ha0 : 0 ≤ h 91 (6 + k).toNat) (ha1 : h 91 (6 + k).toNat < 8) : Run (d + 1) 105 0 [vR 0, vR 12, .inl k, vU, vU, vU] [] h = some (some (.inl (sayF (h 91 (29 + h 91 (6 + k).toNat).toNat) (h 16 3) 6)), h) := by
  rw [q105_0, wI_ok (x := 6 + k) (by omega) (by omega), if_pos (by omega), wI_ok (x := 29 + _) (by omega) (by omega), if_pos (by omega)]
  have key : ∀ (r j : Nat), j + r = 6 → Run (d + 1) 105 24 [vR 0, vR 12, .inl k, .inl (h 91 (29 + h 91 (6 + k).toNat).toNat), .inl (sayF (h 91 (29 + h 91 (6 + k).toNat).toNat) (h 16 3) j), .inl (j : Int)] [] h = some (some (.inl (sayF (h 91 (29 + h 91 (6 + k).toNat).toNat) (h 16 3) 6)), h) := by
    intro r
    induction r with
    | zero =>
      intro j hj
      have : j = 6 := by omega
      subst this
      rw [q105_24 (hz0 := rfl), if_pos (by omega)]
    | succ r ih =>
      intro j hj
      rw [← ih (j + 1) (by omega), q105_24 (hz0 := rfl), if_neg (by omega), e_bc, cI_some, q62_0, cI_some, wI_ok (x := (j : Int) + 1) (by omega) (by omega)]
      conv => rhs; unfold sayF
      split
      · rfl
      · split <;> rfl
  exact key 6 0 rfl
theorem m_says (d : Nat) (k : Int) (h : MH) (hk0 : 0 ≤ k) (hk1 : k < 5) (ha0 : 0 ≤ h 110 (16 + 3 * k).toNat) (ha1 : h 110 (16 + 3 * k).toNat < 8) : Run (d + 1) 250 0 [vR 97, vR 110, .inl k, vU, vU] [] h = some (some (.inl (sayF (h 110 (8 + h 110 (16 + 3 * k).toNat).toNat) (h 102 3) 6)), h) := by
  rw [q250_0]
  have key : ∀ (r j : Nat), j + r = 6 → Run (d + 1) 250 5 [vR 97, vR 110, .inl k, .inl (sayF (h 110 (8 + h 110 (16 + 3 * k).toNat).toNat) (h 102 3) j), .inl (j : Int)] [] h = some (some (.inl (sayF (h 110 (8 + h 110 (16 + 3 * k).toNat).toNat) (h 102 3) 6)), h) := by
    intro r
    induction r with
    | zero =>
      intro j hj
      have : j = 6 := by omega
      subst this
      rw [q250_5, if_pos (by omega)]
    | succ r ih =>
      intro j hj
      rw [← ih (j + 1) (by omega), q250_5, if_neg (by omega), m_folk _ _ _ hk0 (by omega), cI_some, if_pos (by omega), wI_ok (x := 8 + _) (by omega) (by omega), if_pos (by omega), m_has, cI_some, e_bc, cI_some, wI_ok (x := (j : Int) + 1) (by omega) (by omega)]
      conv => rhs; unfold sayF
      split
      · rfl
      · split <;> rfl
  exact key 6 0 rfl
theorem e_allSayableT (d : Nat) (k : Int) (h : MH) (hk0 : 0 ≤ k) (hk1 : k < 5) (ha0 : 0 ≤ h 93 (6 + k).toNat) (ha1 : h 93 (6 + k).toNat < 8) : Run (d + 1) 105 0 [vR 0, vR 13, .inl k, vU, vU, vU] [] h = some (some (.inl (sayF (h 93 (29 + h 93 (6 + k).toNat).toNat) (h 16 3) 6)), h) := by
  rw [q105_0_1, wI_ok (x := 6 + k) (by omega) (by omega), if_pos (by omega), wI_ok (x := 29 + _) (by omega) (by omega), if_pos (by omega)]
  have key : ∀ (r j : Nat), j + r = 6 → Run (d + 1) 105 24 [vR 0, vR 13, .inl k, .inl (h 93 (29 + h 93 (6 + k).toNat).toNat), .inl (sayF (h 93 (29 + h 93 (6 + k).toNat).toNat) (h 16 3) j), .inl (j : Int)] [] h = some (some (.inl (sayF (h 93 (29 + h 93 (6 + k).toNat).toNat) (h 16 3) 6)), h) := by
    intro r
    induction r with
    | zero =>
      intro j hj
      have : j = 6 := by omega
      subst this
      rw [q105_24_1 (hz0 := rfl), if_pos (by omega)]
    | succ r ih =>
      intro j hj
      rw [← ih (j + 1) (by omega), q105_24_1 (hz0 := rfl), if_neg (by omega), e_bc, cI_some, q62_0, cI_some, wI_ok (x := (j : Int) + 1) (by omega) (by omega)]
      conv => rhs; unfold sayF
      split
      · rfl
      · split <;> rfl
  exact key 6 0 rfl
theorem m_saysT (d : Nat) (k : Int) (h : MH) (hk0 : 0 ≤ k) (hk1 : k < 5) (ha0 : 0 ≤ h 111 (16 + 3 * k).toNat) (ha1 : h 111 (16 + 3 * k).toNat < 8) : Run (d + 1) 250 0 [vR 97, vR 111, .inl k, vU, vU] [] h = some (some (.inl (sayF (h 111 (8 + h 111 (16 + 3 * k).toNat).toNat) (h 102 3) 6)), h) := by
  rw [q250_0_1]
  have key : ∀ (r j : Nat), j + r = 6 → Run (d + 1) 250 5 [vR 97, vR 111, .inl k, .inl (sayF (h 111 (8 + h 111 (16 + 3 * k).toNat).toNat) (h 102 3) j), .inl (j : Int)] [] h = some (some (.inl (sayF (h 111 (8 + h 111 (16 + 3 * k).toNat).toNat) (h 102 3) 6)), h) := by
    intro r
    induction r with
    | zero =>
      intro j hj
      have : j = 6 := by omega
      subst this
      rw [q250_5_1, if_pos (by omega)]
    | succ r ih =>
      intro j hj
      rw [← ih (j + 1) (by omega), q250_5_1, if_neg (by omega), m_folk _ _ _ hk0 (by omega), cI_some, if_pos (by omega), wI_ok (x := 8 + _) (by omega) (by omega), if_pos (by omega), m_has, cI_some, e_bc, cI_some, wI_ok (x := (j : Int) + 1) (by omega) (by omega)]
      conv => rhs; unfold sayF
      split
      · rfl
      · split <;> rfl
  exact key 6 0 rfl
/-- how the log has gone on -/
def TL (c v sh c2 v2 sh2 : Nat → Int) : Prop := (c2 5 = c 5 ∧ sh2 = sh ∧ ∀ j, 37 ≤ j → j < 277 → v2 j = v j) ∨ (c2 5 = c 5 + 1 ∧ shotR (c 5) sh sh2 v v2)
theorem TL.pre {c v sh c1 v1 c2 v2 sh2 : Nat → Int} (e5 : c1 5 = c 5) (ev : ∀ j, 37 ≤ j → j < 277 → v1 j = v j) (t : TL c1 v1 sh c2 v2 sh2) : TL c v sh c2 v2 sh2 := by
  rcases t with ⟨t1, t2, t3⟩ | ⟨t1, x, t2, t3⟩
  · exact Or.inl ⟨by omega, t2, fun j a b => by rw [t3 j a b, ev j a b]⟩
  · refine Or.inr ⟨by omega, x, by rw [← e5]; exact t2, fun n w hw hn hs => ?_⟩
    rw [t3 n w hw hn (by omega), e5]
    by_cases q : c 5 < 60
    · rw [if_pos q, if_pos q]
      split
      · rfl
      · rw [ev _ (by omega) (by omega)]
    · rw [if_neg q, if_neg q]
      split
      · rfl
      · rw [ev _ (by omega) (by omega)]
theorem TL.post {c v sh c2 v2 sh2 c3 v3 : Nat → Int} (e5 : c3 5 = c2 5) (ev : ∀ j, 37 ≤ j → j < 277 → v3 j = v2 j) (t : TL c v sh c2 v2 sh2) : TL c v sh c3 v3 sh2 := by
  rcases t with ⟨t1, t2, t3⟩ | ⟨t1, x, t2, t3⟩
  · exact Or.inl ⟨by omega, t2, fun j a b => by rw [ev j a b, t3 j a b]⟩
  · refine Or.inr ⟨by omega, x, t2, fun n w hw hn hs => ?_⟩
    rw [ev _ (by omega) (by omega)]
    exact t3 n w hw hn hs
abbrev canP (cc k pw : Int) (c : Nat → Int) : Prop := ((0 ≤ k ∧ k < cc) ∧ c (16 + k).toNat = 0) ∧ (1 ≤ pw ∧ pw ≤ 20) ∧ pw ≤ c 0
def lnF (Ws : Nat → WF) (h : MH) (c : Nat → Int) (k pw way : Int) : Int := ldF (h 17) (h 2 3) (plF Ws (h 6 2) (h 17) (h 18) k (c (6 + k).toNat) pw way (c 1) (c 2) (c 3))
noncomputable def nwF (h : MH) (c : Nat → Int) (k : Int) : Int := sayF (c (29 + c (6 + k).toNat).toNat) (h 16 3) 6
/-- a shot that may be -/
noncomputable def mcC (Ws : Nat → WF) (h : MH) (c : Nat → Int) (k pw way : Int) : Nat → Int := if canP (h 2 4) k pw c then shC c k pw (lnF Ws h c k pw way) (nwF h c k) else c
noncomputable def mcV (Ws : Nat → WF) (h : MH) (c v : Nat → Int) (k pw way : Int) : Nat → Int := if canP (h 2 4) k pw c then lgM (shV v k pw (lnF Ws h c k pw way) (nwF h c k)) k (c (6 + k).toNat) (lnF Ws h c k pw way) pw else v
noncomputable def mcS (Ws : Nat → WF) (h : MH) (c sh : Nat → Int) (k pw way : Int) : Nat → Int := if canP (h 2 4) k pw c then su4 sh (4 * ((c 5).toNat % 100)) k (c (6 + k).toNat) (lnF Ws h c k pw way) pw else sh
theorem mc_SS {Ws : Nat → WF} {h : MH} (i : iLg h) {b k pw way : Int} {c v sh : Nat → Int} (r : stR c v) (o : stOK (h 2 3) (h 2 4) b c) : SS (h 2 3) (h 2 4) (b + 1) c v sh (mcC Ws h c k pw way) (mcV Ws h c v k pw way) (mcS Ws h c sh k pw way) := by
  obtain ⟨l1, l2, l3, l4, l5, l6, l7⟩ := lgL i
  unfold mcC mcV mcS
  by_cases q : canP (h 2 4) k pw c
  · rw [if_pos q, if_pos q, if_pos q]
    obtain ⟨⟨qx, ql⟩, qp, qq⟩ := q
    have lb := ldF_b (h 17) (h 2 3) (plF Ws (h 6 2) (h 17) (h 18) k (c (6 + k).toNat) pw way (c 1) (c 2) (c 3)) l3
    have lb2 : lnF Ws h c k pw way = -1 ∨ (0 ≤ lnF Ws h c k pw way ∧ lnF Ws h c k pw way < h 2 3) := by unfold lnF; omega
    have nb := say_b (c (29 + c (6 + k).toNat).toNat) (h 16 3) 6 (by omega)
    have nb2 : 0 ≤ nwF h c k ∧ nwF h c k ≤ 63 := by unfold nwF; omega
    exact ⟨stR_shot r o.1.2.2.2.2.2.1 qx.1 (by omega) (by omega), stOK_shot o qx.1 qx.2 l6 l4 (by omega) (by omega) qq nb2.1 nb2.2, Or.inr ⟨shC_5 _ _ _ _ _, shot_R r o.1.2.2.2.2.2.1 qx.1 (by omega) (by omega)⟩⟩
  · rw [if_neg q, if_neg q, if_neg q]
    exact ⟨r, stOK_congr (by omega) (fun _ _ => rfl) l4 l6 o, Or.inl ⟨rfl, rfl, fun _ _ _ => rfl⟩⟩
/-- a shot with all that can be said, where it can be -/
theorem e_fireAll {Ws : Nat → WF} {h H : MH} (i : InvF Ws h) (sf : SF h H) (d : Nat) {b k pw way : Int} {c : Nat → Int} (ec : H 91 = c) (o : stOK (h 2 3) (h 2 4) b c) (hb : b ≤ 900000) (q : canP (h 2 4) k pw c) :
    ∃ H2, Run (d + 1) 105 0 [vR 0, vR 12, .inl k, vU, vU, vU] [] H = some (some (.inl (nwF h c k)), H) ∧ Run (d + 5) 78 0 [vR 0, vR 12, .inl k, .inl pw, .inl way, .inl (nwF h c k), vU, vU] [] H = some (some (.inl (lnF Ws h c k pw way)), H2) ∧ (∀ a, a ≠ 23 → a ≠ 30 → a ≠ 91 → a ≠ 92 → H2 a = H a) ∧ H2 91 = shC c k pw (lnF Ws h c k pw way) (nwF h c k) ∧ H2 92 = su4 (H 92) (4 * ((c 5).toNat % 100)) k (c (6 + k).toNat) (lnF Ws h c k pw way) pw := by
  obtain ⟨l1, l2, l3, l4, l5, l6, l7⟩ := lgL i.1
  obtain ⟨⟨qx, ql⟩, qp, qq⟩ := q
  obtain ⟨d1, d2, d3, d4, d5, d6, d7, d8, d9⟩ := sf.dat
  have at_ := so_at o k qx.1 qx.2
  obtain ⟨H2, r1, r2, r3, r4⟩ := e_fire (sf.F i) d (b := b) (k := k) (pw := pw) (way := way) (nw := nwF h c k) (by rw [d4, d5, ec]; exact o) hb qx.1 (by omega) qp.1 qp.2
  rw [ec, d1, d2, d3, d4] at r1 r3 r4
  refine ⟨H2, ?_, r1, r2, r3, r4⟩
  rw [e_allSayable _ _ _ qx.1 (by omega) (by rw [ec]; exact at_.1) (by rw [ec]; omega), ec, d6]
  rfl
theorem m_fireAll {Ws : Nat → WF} {h H : MH} (i : InvF Ws h) (sf : SF h H) (d : Nat) {b k pw way : Int} {c v : Nat → Int} (ev : H 110 = v) (r : stR c v) (o : stOK (h 2 3) (h 2 4) b c) (hb : b ≤ 900000) (q : canP (h 2 4) k pw c) :
    ∃ H2, Run (d + 1) 250 0 [vR 97, vR 110, .inl k, vU, vU] [] H = some (some (.inl (nwF h c k)), H) ∧ Run (d + 36) 230 0 [vR 97, vR 110, .inl k, .inl pw, .inl way, .inl (nwF h c k), vU, vU, vU] [] H = some (some (.inl (lnF Ws h c k pw way)), H2) ∧ (∀ a j, ¬ (a = 97 ∧ prF_ j) → a ≠ 101 → a ≠ 110 → H2 a j = H a j) ∧ H2 110 = lgM (shV v k pw (lnF Ws h c k pw way) (nwF h c k)) k (c (6 + k).toNat) (lnF Ws h c k pw way) pw := by
  obtain ⟨l1, l2, l3, l4, l5, l6, l7⟩ := lgL i.1
  obtain ⟨⟨qx, ql⟩, qp, qq⟩ := q
  obtain ⟨d1, d2, d3, d4, d5, d6, d7, d8, d9⟩ := sf.dat
  have at_ := so_at o k qx.1 qx.2
  have vat := st_at r k qx.1 (by omega)
  have nws := st_news r (c (6 + k).toNat) at_.1 (by omega)
  obtain ⟨H2, r1, r2, r3⟩ := m_shoots (sf.F i) d (b := b) (k := k) (pw := pw) (way := way) (nw := nwF h c k) (c := c) (by rw [ev]; exact r) (by rw [d4, d5]; exact o) hb qx.1 (by omega) qp.1 qp.2
  rw [d1, d2, d3, d4] at r1 r3
  rw [ev] at r3
  refine ⟨H2, ?_, r1, r2, r3⟩
  have e3 : h 102 3 = h 16 3 := i.1.2.2.2.1 3 (by omega)
  rw [m_says _ _ _ qx.1 (by omega) (by rw [ev, vat]; exact at_.1) (by rw [ev, vat]; omega), ev, vat, nws, d9, e3]
  rfl
/-- a shot with all that can be said, where it can be -/
theorem e_fireAllT {Ws : Nat → WF} {h H : MH} (i : InvF Ws h) (sf : SF h H) (d : Nat) {b k pw way : Int} {c : Nat → Int} (ec : H 93 = c) (o : stOK (h 2 3) (h 2 4) b c) (hb : b ≤ 900000) (q : canP (h 2 4) k pw c) :
    ∃ H2, Run (d + 1) 105 0 [vR 0, vR 13, .inl k, vU, vU, vU] [] H = some (some (.inl (nwF h c k)), H) ∧ Run (d + 5) 78 0 [vR 0, vR 13, .inl k, .inl pw, .inl way, .inl (nwF h c k), vU, vU] [] H = some (some (.inl (lnF Ws h c k pw way)), H2) ∧ (∀ a, a ≠ 23 → a ≠ 30 → a ≠ 93 → a ≠ 94 → H2 a = H a) ∧ H2 93 = shC c k pw (lnF Ws h c k pw way) (nwF h c k) ∧ H2 94 = su4 (H 94) (4 * ((c 5).toNat % 100)) k (c (6 + k).toNat) (lnF Ws h c k pw way) pw := by
  obtain ⟨l1, l2, l3, l4, l5, l6, l7⟩ := lgL i.1
  obtain ⟨⟨qx, ql⟩, qp, qq⟩ := q
  obtain ⟨d1, d2, d3, d4, d5, d6, d7, d8, d9⟩ := sf.dat
  have at_ := so_at o k qx.1 qx.2
  obtain ⟨H2, r1, r2, r3, r4⟩ := e_fireT (sf.F i) d (b := b) (k := k) (pw := pw) (way := way) (nw := nwF h c k) (by rw [d4, d5, ec]; exact o) hb qx.1 (by omega) qp.1 qp.2
  rw [ec, d1, d2, d3, d4] at r1 r3 r4
  refine ⟨H2, ?_, r1, r2, r3, r4⟩
  rw [e_allSayableT _ _ _ qx.1 (by omega) (by rw [ec]; exact at_.1) (by rw [ec]; omega), ec, d6]
  rfl
theorem m_fireAllT {Ws : Nat → WF} {h H : MH} (i : InvF Ws h) (sf : SF h H) (d : Nat) {b k pw way : Int} {c v : Nat → Int} (ev : H 111 = v) (r : stR c v) (o : stOK (h 2 3) (h 2 4) b c) (hb : b ≤ 900000) (q : canP (h 2 4) k pw c) :
    ∃ H2, Run (d + 1) 250 0 [vR 97, vR 111, .inl k, vU, vU] [] H = some (some (.inl (nwF h c k)), H) ∧ Run (d + 36) 230 0 [vR 97, vR 111, .inl k, .inl pw, .inl way, .inl (nwF h c k), vU, vU, vU] [] H = some (some (.inl (lnF Ws h c k pw way)), H2) ∧ (∀ a j, ¬ (a = 97 ∧ prF_ j) → a ≠ 101 → a ≠ 111 → H2 a j = H a j) ∧ H2 111 = lgM (shV v k pw (lnF Ws h c k pw way) (nwF h c k)) k (c (6 + k).toNat) (lnF Ws h c k pw way) pw := by
  obtain ⟨l1, l2, l3, l4, l5, l6, l7⟩ := lgL i.1
  obtain ⟨⟨qx, ql⟩, qp, qq⟩ := q
  obtain ⟨d1, d2, d3, d4, d5, d6, d7, d8, d9⟩ := sf.dat
  have at_ := so_at o k qx.1 qx.2
  have vat := st_at r k qx.1 (by omega)
  have nws := st_news r (c (6 + k).toNat) at_.1 (by omega)
  obtain ⟨H2, r1, r2, r3⟩ := m_shootsT (sf.F i) d (b := b) (k := k) (pw := pw) (way := way) (nw := nwF h c k) (c := c) (by rw [ev]; exact r) (by rw [d4, d5]; exact o) hb qx.1 (by omega) qp.1 qp.2
  rw [d1, d2, d3, d4] at r1 r3
  rw [ev] at r3
  refine ⟨H2, ?_, r1, r2, r3⟩
  have e3 : h 102 3 = h 16 3 := i.1.2.2.2.1 3 (by omega)
  rw [m_saysT _ _ _ qx.1 (by omega) (by rw [ev, vat]; exact at_.1) (by rw [ev, vat]; omega), ev, vat, nws, d9, e3]
  rfl
/-- the draws ahead of an hour, behind the damp -/
theorem e_draw38 {Ws : Nat → WF} {h H : MH} (i : InvF Ws h) (sf : SF h H) (hf : 0 < h 2 3) (d : Nat) {b x0 x2 : Int} {c : Nat → Int} (ec : H 91 = c) (o : stOK (h 2 3) (h 2 4) b c) (hb : b ≤ 900000) :
    ∃ H2, Run (d + 6) 102 38 [vR 0, .inr (.inl x0), vU, .inr (.inl x2), vU, vU, vU, vU] [] H = some (some (.inr (.inl (tuF (tuF (tuF x2))))), H2) ∧ (∀ a, a ≠ 23 → a ≠ 30 → a ≠ 91 → a ≠ 92 → H2 a = H a) ∧ H2 91 = mcC Ws h c (dwF (tuF x2) (h 2 4)) (dwF (tuF (tuF (tuF x2))) 20 + 1) (dwF (tuF (tuF x2)) 2) ∧ H2 92 = mcS Ws h c (H 92) (dwF (tuF x2) (h 2 4)) (dwF (tuF (tuF (tuF x2))) 20 + 1) (dwF (tuF (tuF x2)) 2) := by
  obtain ⟨l1, l2, l3, l4, l5, l6, l7⟩ := lgL i.1
  obtain ⟨d1, d2, d3, d4, d5, d6, d7, d8, d9⟩ := sf.dat
  have kb := dw_b (tuF x2) (m := h 2 4) (by omega) (by omega)
  have wb := dw_b (tuF (tuF x2)) (m := 2) (by omega) (by omega)
  have pb := dw_b (tuF (tuF (tuF x2))) (m := 20) (by omega) (by omega)
  rw [q102_38 (hz1 := rfl) (hz3 := rfl) (hz4 := rfl) (hz5 := rfl) (hz6 := rfl), e_turned, cJ_some, e_drawn _ _ _ _ (by rw [d5]; omega), cI_some, e_turned, cJ_some, e_drawn _ _ _ _ (by omega), cI_some, e_turned, cJ_some, e_drawn _ _ _ _ (by omega), cI_some, d5, wI_ok (x := _ + 1) (by omega) (by omega), e_canFire _ _ _ _ (by rw [d5]; exact l6), cI_some, d5, ec]
  unfold mcC mcS
  by_cases q : canP (h 2 4) (dwF (tuF x2) (h 2 4)) (dwF (tuF (tuF (tuF x2))) 20 + 1) c
  · obtain ⟨H2, s1, s2, s3, s4, s5⟩ := e_fireAll i sf d (way := dwF (tuF (tuF x2)) 2) ec o hb q
    have s1' := (e_fireAll i sf (d + 4) (way := dwF (tuF (tuF x2)) 2) ec o hb q).choose_spec.1
    rw [bi_t q, if_neg (by omega), if_pos q, if_pos q]
    refine ⟨H2, ?_, s3, s4, s5⟩
    rw [s1', cI_some, s2, cI_some]
  · rw [bi_f q, if_pos rfl, if_neg q, if_neg q]
    exact ⟨H, rfl, fun _ _ _ _ _ => rfl, ec, rfl⟩
/-- an hour of decades -/
theorem dec_hour {b x : Int} {Ws : Nat → WF} {h hc hm : MH} (i : InvF Ws h) (hf : 0 < h 2 3) (hb : b ≤ 800000) (inv : Inv0 b (mix hc hm)) (sc : SF h hc) (sm : SF h hm) (hdc : hc 0 14 = h 0 14) (hdm : hm 97 35 = h 0 14) (h4 : hc 91 4 + 1 ≤ 9999) : ∃ c3 v3 sh2 x5, SS (hc 2 3) (hc 2 4) (b + 1) (hc 91) (hm 110) (hc 92) c3 v3 sh2 ∧ c3 4 = hc 91 4 + 1 ∧
    (∀ (H : MH) (n j s0 : Int), SF h H → CS hc H → 0 ≤ j → j < n → n ≤ 100 → ∃ H2, Run 40 101 16 [vR 0, .inl n, .inr (.inl s0), vU, .inr (.inl x), vU, .inl j] [] H = Run 40 101 16 [vR 0, .inl n, .inr (.inl s0), vU, .inr (.inl x5), vU, .inl (j + 1)] [] H2 ∧ SF h H2 ∧ CS (acC hc c3 sh2) H2 ∧ Kc H H2) ∧
    (∀ (H : MH) (n j s0 : Int) (z4 z5 z6 z7 : MV), cat z4 = 1 → cat z5 = 1 → cat z6 = 1 → cat z7 = 1 → SF h H → MS hm H → H 97 38 = x → 0 ≤ j → j < n → n ≤ 100 → ∃ H2 y4 y5 y6 y7, cat y4 = 1 ∧ cat y5 = 1 ∧ cat y6 = 1 ∧ cat y7 = 1 ∧ Run 40 248 29 [vR 97, .inl n, .inr (.inl s0), vU, .inl j, z4, z5, z6, z7] [] H = Run 40 248 29 [vR 97, .inl n, .inr (.inl s0), vU, .inl (j + 1), y4, y5, y6, y7] [] H2 ∧ SF h H2 ∧ MS (acM hm v3) H2 ∧ Km H H2 ∧ H2 97 38 = x5) := by
  obtain ⟨l1, l2, l3, l4, l5, l6, l7⟩ := lgL i.1
  have ef : hc 2 3 = h 2 3 := sc _ _ rfl
  have ek : hc 2 4 = h 2 4 := sc _ _ rfl
  have r : stR (hc 91) (hm 110) := nowR inv
  have o : stOK (hc 2 3) (hc 2 4) b (hc 91) := nowOK (h := mix hc hm) inv
  have hist : (0 ≤ hc 11 0 ∧ hc 11 0 ≤ 40) ∧ (0 ≤ hc 11 2 ∧ hc 11 2 < 40) ∧ hm 97 37 = hc 11 0 := hist_n inv
  obtain ⟨hh1, hh2, hh3⟩ := hist
  rw [ef, ek] at o ⊢
  have wb := dw_b (tuF x) (m := 10) (by omega) (by omega)
  have wb2 := dw_b (tuF (tuF x)) (m := 10) (by omega) (by omega)
  -- the damp
  obtain ⟨c1, v1, x2, r1, o1, e15, e14, ev1, cls1, ref1⟩ : ∃ c1 v1 x2, stR c1 v1 ∧ stOK (h 2 3) (h 2 4) b c1 ∧ c1 5 = hc 91 5 ∧ c1 4 = hc 91 4 ∧ (∀ j, 37 ≤ j → j < 277 → v1 j = hm 110 j) ∧
      (∀ G : MH, G 91 = hc 91 → G 0 14 = h 0 14 → Run 39 102 0 [vR 0, .inr (.inl x), vU, vU, vU, vU, vU, vU] [] G = Run 39 102 38 [vR 0, .inr (.inl x), vU, .inr (.inl x2), vU, vU, vU, vU] [] (rs G 91 c1)) ∧
      (∀ (G : MH) (f : MH → Option (Option MV × MH)), G 110 = hm 110 → G 97 38 = x → G 97 35 = h 0 14 → (cI (Run 39 249 0 [vR 97, .inl 10] [] G) fun a4_ h3_ => if h3_ 97 35 ≤ a4_ then f h3_ else cI (Run 39 249 0 [vR 97, .inl 10] [] h3_) fun a7_ h6_ => f (up h6_ 110 34 a7_)) = f (rs (up G 97 38 x2) 110 v1)) := by
    by_cases q : dwF (tuF x) 10 < h 0 14
    · refine ⟨su (hc 91) 3 (dwF (tuF (tuF x)) 10), su (hm 110) 34 (dwF (tuF (tuF x)) 10), tuF (tuF x), stR_x r 3 _ (by omega), stOK_x o 3 _ (by omega) l6 l4 (by omega) (by omega) (by omega) (by omega) (by omega), su_i (by omega), su_i (by omega), fun j a b => su_i (by omega), fun G g1 g2 => ?_, fun G f g1 g2 g3 => ?_⟩
      · rw [q102_0, e_turned, cJ_some, e_drawn _ _ _ _ (by omega), cI_some, g2, if_neg (by omega), e_turned, cJ_some, e_drawn _ _ _ _ (by omega), cI_some, up_is_rs, g1]
      · rw [m_draw _ _ _ (by omega), cI_some, g2, up_i (by omega), g3, if_neg (by omega), m_draw _ _ _ (by omega), cI_some, up_s]
        congr 1
        have e1 : up (up G 97 38 (tuF x)) 97 38 (tuF (tuF x)) = up G 97 38 (tuF (tuF x)) := by
          funext a j
          by_cases za : a = 97
          · subst za
            by_cases zj : j = 38
            · subst zj; rw [up_s, up_s]
            · rw [up_i zj, up_i zj, up_i zj]
          · rw [up_a za, up_a za, up_a za]
        rw [e1, up_is_rs, up_ne (by omega), g1]
    · refine ⟨hc 91, hm 110, tuF x, r, o, rfl, rfl, fun _ _ _ => rfl, fun G g1 g2 => ?_, fun G f g1 g2 g3 => ?_⟩
      · rw [q102_0, e_turned, cJ_some, e_drawn _ _ _ _ (by omega), cI_some, g2, if_pos (by omega), ← g1, rs_id]
      · rw [m_draw _ _ _ (by omega), cI_some, g2, up_i (by omega), g3, if_pos (by omega), ← g1, ← up_ne (h := G) (a := 97) (b := 110) (j := 38) (v := tuF x) (by omega), rs_id]
  obtain ⟨S1, S2, S3⟩ := mc_SS (Ws := Ws) i.1 (sh := hc 92) (k := dwF (tuF x2) (h 2 4)) (pw := dwF (tuF (tuF (tuF x2))) 20 + 1) (way := dwF (tuF (tuF x2)) 2) r1 o1
  have c24 : mcC Ws h c1 (dwF (tuF x2) (h 2 4)) (dwF (tuF (tuF (tuF x2))) 20 + 1) (dwF (tuF (tuF x2)) 2) 4 = c1 4 := by
    have kb := dw_b (tuF x2) (m := h 2 4) (by omega) (by omega)
    unfold mcC
    split
    · unfold shC
      rw [su_i (by omega)]
      have lb := ldF_b (h 17) (h 2 3) (plF Ws (h 6 2) (h 17) (h 18) (dwF (tuF x2) (h 2 4)) (c1 (6 + dwF (tuF x2) (h 2 4)).toNat) (dwF (tuF (tuF (tuF x2))) 20 + 1) (dwF (tuF (tuF x2)) 2) (c1 1) (c1 2) (c1 3)) l3
      have lb2 : lnF Ws h c1 (dwF (tuF x2) (h 2 4)) (dwF (tuF (tuF (tuF x2))) 20 + 1) (dwF (tuF (tuF x2)) 2) = -1 ∨ (0 ≤ lnF Ws h c1 (dwF (tuF x2) (h 2 4)) (dwF (tuF (tuF (tuF x2))) 20 + 1) (dwF (tuF (tuF x2)) 2) ∧ lnF Ws h c1 (dwF (tuF x2) (h 2 4)) (dwF (tuF (tuF (tuF x2))) 20 + 1) (dwF (tuF (tuF x2)) 2) < 8) := by unfold lnF; omega
      split
      · rw [su_i (by omega), su_i (by omega)]
      · unfold ldC ldC1
        rw [su_i (by omega), su_i (by omega)]
        split
        · rw [su_i (by omega), su_i (by omega)]
        · rw [su_i (by omega), su_i (by omega)]
    · rfl
  generalize hc2 : mcC Ws h c1 (dwF (tuF x2) (h 2 4)) (dwF (tuF (tuF (tuF x2))) 20 + 1) (dwF (tuF (tuF x2)) 2) = c2 at S1 S2 S3 c24
  generalize hv2 : mcV Ws h c1 v1 (dwF (tuF x2) (h 2 4)) (dwF (tuF (tuF (tuF x2))) 20 + 1) (dwF (tuF (tuF x2)) 2) = v2 at S1 S3
  refine ⟨hrC (h 2 3) c2, hrM (h 2 3) (h 2 4) v2, mcS Ws h c1 (hc 92) (dwF (tuF x2) (h 2 4)) (dwF (tuF (tuF (tuF x2))) 20 + 1) (dwF (tuF (tuF x2)) 2), tuF (tuF (tuF x2)), ⟨hr_R S1 S2 l4 l6, hr_OK S2 l4 l6 (by omega), ?_⟩, by rw [hrC_4, c24, e14], ?_, ?_⟩
  · exact TL.post (hrC_o l4 (by omega) (by omega)) (fun j a b => hrM_o l4 l6 (by omega) (by omega) (by omega)) (TL.pre e15 ev1 S3)
  · intro H n j s0 sf cs hj hjn hn
    have t0 : H 11 2 = hc 11 2 := cs _ _ rfl (by omega)
    have t1 : H 11 0 = hc 11 0 := cs _ _ rfl (by omega)
    have t2 : H 91 = hc 91 := funext fun j => cs _ _ rfl (by omega)
    have t3 : H 92 = hc 92 := funext fun j => cs _ _ rfl (by omega)
    have t4 : H 0 14 = h 0 14 := by rw [cs _ _ rfl (by omega), hdc]
    have k1 : keepC H 91 = hc 91 := by rw [keepC_ne (by omega) (by omega) (by omega), t2]
    have k2 : keepC H 92 = hc 92 := by rw [keepC_ne (by omega) (by omega) (by omega), t3]
    have k3 : keepC H 0 = H 0 := keepC_ne (by omega) (by omega) (by omega)
    have sfG : SF h (rs (keepC H) 91 c1) := fun a j rr => by
      have n3 : a ≠ 91 := fun z => by subst z; exact Bool.false_ne_true rr
      have n5 : a ≠ 11 := fun z => by subst z; exact Bool.false_ne_true rr
      have n6 : ¬ (51 ≤ a ∧ a < 51 + 40) := by
        intro z
        have : a ≤ 40 ∨ 97 ≤ a := by
          unfold relF at rr
          split at rr <;> first | omega | exact absurd rr Bool.false_ne_true
        omega
      rw [rs_n n3, keepC_ne (by omega) n5 n6]
      exact sf a j rr
    obtain ⟨G2, g1, g2, g3, g4⟩ := e_draw38 i sfG hf 33 (x0 := x) (x2 := x2) (rs_s _ _ _) o1 (by omega)
    rw [rs_n (by omega), k2] at g4
    rw [hc2] at g3
    have f2 : G2 2 3 = h 2 3 := by rw [g2 2 (by omega) (by omega) (by omega) (by omega)]; exact sfG _ _ rfl
    have oa := so_all S2 (by omega) (by omega)
    have pass := e_passHour 39 (h 2 3) G2 l3 l4 (fun j hj => by rw [g3]; have := oa j hj; omega) (by rw [g3]; exact (oa 4 (by omega)).1)
    rw [g3] at pass
    obtain ⟨a1, a2, a3⟩ := act_C (sh2 := mcS Ws h c1 (hc 92) (dwF (tuF x2) (h 2 4)) (dwF (tuF (tuF (tuF x2))) 20 + 1) (dwF (tuF (tuF x2)) 2)) (H2 := rs G2 91 (hrC (h 2 3) c2)) sf cs hh2.1 hh2.2 (fun a n1 n2 n3 n4 => by rw [rs_n n3, g2 a n1 n2 n3 n4, rs_n n3]) (rs_s _ _ _) (by rw [rs_n (by omega)]; exact g4)
    refine ⟨rs G2 91 (hrC (h 2 3) c2), ?_, a1, a2, a3⟩
    rw [q101_16 (hz2 := rfl) (hz4 := rfl), if_neg (by omega), e_keep _ _ (by omega) (by omega) (by omega) (by omega), cV_some, cls1 _ k1 (by rw [k3]; exact t4), g1, cJ_some, f2, pass, cV_some, wI_ok (by omega) (by omega)]
  · intro H n j s0 z4 z5 z6 z7 c4 c5 c6 c7 sf ms hx hj hjn hn
    have t1 : H 97 37 = hc 11 0 := by rw [ms _ _ rfl (by omega), hh3]
    have t2 : H 110 = hm 110 := funext fun j => ms _ _ rfl (by omega)
    have k1 : remM H 110 = hm 110 := by rw [remM_ne (by omega) (by omega), t2]
    have k2 : remM H 97 38 = x := by rw [remM_f (by omega), hx]
    have k3 : remM H 97 35 = h 0 14 := by rw [remM_f (by omega), ms _ _ rfl (by omega), hdm]
    have kb := dw_b (tuF x2) (m := h 2 4) (by omega) (by omega)
    have wwb := dw_b (tuF (tuF x2)) (m := 2) (by omega) (by omega)
    have ppb := dw_b (tuF (tuF (tuF x2))) (m := 20) (by omega) (by omega)
    -- behind the draws
    have sfG : ∀ y : Int, SF h (rs (up (remM H) 97 38 y) 110 v1) := fun y a j rr => by
      have n2 : a ≠ 110 := fun z => by subst z; exact Bool.false_ne_true rr
      have n3 : a ≠ 112 := fun z => by subst z; exact Bool.false_ne_true rr
      rw [rs_n n2]
      by_cases z : a = 97
      · subst z
        rw [up_i (fun z => by subst z; exact Bool.false_ne_true rr), remM_f (fun z => by subst z; exact Bool.false_ne_true rr)]
        exact sf _ j rr
      · rw [up_a z, remM_ne z n3]
        exact sf a j rr
    have xs : ∀ y w : Int, up (rs (up (remM H) 97 38 y) 110 v1) 97 38 w = rs (up (remM H) 97 38 w) 110 v1 := by
      intro y w
      funext a j
      by_cases za : a = 97
      · subst za
        rw [rs_n (by omega)]
        by_cases zj : j = 38
        · subst zj; rw [up_s, up_s]
        · rw [up_i zj, rs_n (by omega), up_i zj, up_i zj]
      · rw [up_a za]
        by_cases zn : a = 110
        · subst zn; rw [rs_s, rs_s]
        · rw [rs_n zn, rs_n zn, up_a za, up_a za]
    have xv : ∀ y : Int, rs (up (remM H) 97 38 y) 110 v1 97 38 = y := fun y => by rw [rs_n (by omega), up_s]
    have sG := sfG (tuF (tuF (tuF x2)))
    obtain ⟨d1, d2, d3, d4, d5, d6, d7, d8, d9⟩ := sG.dat
    have cr : ∀ y : Int, rs (up (remM H) 97 38 y) 110 v1 97 27 = h 2 4 := fun y => by rw [(sfG y) 97 _ rfl, l2]
    have lat : ∀ k : Int, 0 ≤ k → k < h 2 4 → v1 (16 + 3 * k + 2).toNat = c1 (16 + k).toNat := fun k a b => st_late r1 k a (by omega)
    have pw0 : v1 31 = c1 0 := r1.2.2.1
    have can : Run 39 227 0 [vR 97, vR 110, .inl (dwF (tuF x2) (h 2 4)), .inl (dwF (tuF (tuF (tuF x2))) 20 + 1), .inl (dwF (tuF (tuF x2)) 2)] [] (rs (up (remM H) 97 38 (tuF (tuF (tuF x2)))) 110 v1) = some (some (.inl (bi (canP (h 2 4) (dwF (tuF x2) (h 2 4)) (dwF (tuF (tuF (tuF x2))) 20 + 1) c1))), rs (up (remM H) 97 38 (tuF (tuF (tuF x2)))) 110 v1) := by
      rw [m_canShoot _ _ _ _ _ (by rw [cr]; exact l6), cr, rs_s, lat _ kb.1 kb.2, pw0]
      congr 4
      apply bi_congr
      constructor
      · rintro ⟨a1, a2, a3, a4⟩; exact ⟨a1, a3, a4⟩
      · rintro ⟨a1, a3, a4⟩; exact ⟨a1, by omega, a3, a4⟩
    have o2a := sr_all S1 S2 (by omega) (by omega)
    -- the state behind the shot
    obtain ⟨G2, y7, cy, u1, u2, u3⟩ : ∃ G2 y7, cat y7 = 1 ∧ (cI (Run 39 227 0 [vR 97, vR 110, .inl (dwF (tuF x2) (h 2 4)), .inl (dwF (tuF (tuF (tuF x2))) 20 + 1), .inl (dwF (tuF (tuF x2)) 2)] [] (rs (up (remM H) 97 38 (tuF (tuF (tuF x2)))) 110 v1)) fun a8_ h7_ => if a8_ = 0 then (cV (Run 39 247 0 [vR 97, vR 110, vU] [] h7_) fun h10_ => Run 40 248 29 [vR 97, .inl n, .inr (.inl s0), vU, .inl (wI (j + 1)), .inl (dwF (tuF x2) (h 2 4)), .inl (dwF (tuF (tuF x2)) 2), .inl (dwF (tuF (tuF (tuF x2))) 20 + 1), .inl (-1)] [] h10_) else (cI (Run 39 250 0 [vR 97, vR 110, .inl (dwF (tuF x2) (h 2 4)), vU, vU] [] h7_) fun a12_ h11_ => (cI (Run 39 230 0 [vR 97, vR 110, .inl (dwF (tuF x2) (h 2 4)), .inl (dwF (tuF (tuF (tuF x2))) 20 + 1), .inl (dwF (tuF (tuF x2)) 2), .inl a12_, vU, vU, vU] [] h11_) fun a14_ h13_ => (cV (Run 39 247 0 [vR 97, vR 110, vU] [] h13_) fun h15_ => Run 40 248 29 [vR 97, .inl n, .inr (.inl s0), vU, .inl (wI (j + 1)), .inl (dwF (tuF x2) (h 2 4)), .inl (dwF (tuF (tuF x2)) 2), .inl (dwF (tuF (tuF (tuF x2))) 20 + 1), .inl a14_] [] h15_)))) = (cV (Run 39 247 0 [vR 97, vR 110, vU] [] G2) fun h15_ => Run 40 248 29 [vR 97, .inl n, .inr (.inl s0), vU, .inl (wI (j + 1)), .inl (dwF (tuF x2) (h 2 4)), .inl (dwF (tuF (tuF x2)) 2), .inl (dwF (tuF (tuF (tuF x2))) 20 + 1), y7] [] h15_) ∧ (∀ a j, ¬ (a = 97 ∧ prF_ j) → a ≠ 101 → a ≠ 110 → G2 a j = rs (up (remM H) 97 38 (tuF (tuF (tuF x2)))) 110 v1 a j) ∧ G2 110 = v2 := by
      rw [can, cI_some]
      by_cases q : canP (h 2 4) (dwF (tuF x2) (h 2 4)) (dwF (tuF (tuF (tuF x2))) 20 + 1) c1
      · obtain ⟨H2, s1, s2, s3, s4⟩ := m_fireAll i sG 3 (way := dwF (tuF (tuF x2)) 2) (rs_s _ _ _) r1 o1 (by omega) q
        have s1' := (m_fireAll i sG 38 (way := dwF (tuF (tuF x2)) 2) (rs_s _ _ _) r1 o1 (by omega) q).choose_spec.1
        refine ⟨H2, .inl (lnF Ws h c1 (dwF (tuF x2) (h 2 4)) (dwF (tuF (tuF (tuF x2))) 20 + 1) (dwF (tuF (tuF x2)) 2)), rfl, ?_, s3, ?_⟩
        · rw [bi_t q, if_neg (by omega), s1', cI_some, s2, cI_some]
        · rw [s4, ← hv2]
          unfold mcV
          rw [if_pos q]
      · refine ⟨rs (up (remM H) 97 38 (tuF (tuF (tuF x2)))) 110 v1, .inl (-1), rfl, ?_, fun _ _ _ _ _ => rfl, ?_⟩
        · rw [bi_f q, if_pos rfl]
        · rw [rs_s, ← hv2]
          unfold mcV
          rw [if_neg q]
    have ff : G2 97 26 = h 2 3 := by rw [u2 _ _ (fun z => npr (by omega) z.2) (by omega) (by omega), sG 97 _ rfl, l1]
    have fk : G2 97 27 = h 2 4 := by rw [u2 _ _ (fun z => npr (by omega) z.2) (by omega) (by omega), sG 97 _ rfl, l2]
    have go := m_goHour 38 G2 (h 2 3) (h 2 4) ff fk l3 l4 l5 l6 (fun j hj => by rw [u3]; have := o2a j hj; omega) (by rw [u3]; exact (o2a 35 (by omega)).1)
    rw [u3] at go
    obtain ⟨b1, b2, b3⟩ := act_M (H2 := rs G2 110 (hrM (h 2 3) (h 2 4) v2)) sf ms (fun a j n1 n2 n3 => by
      rw [rs_n n3, u2 a j (fun z => n1 ⟨z.1, Or.inl z.2⟩) n2 n3, rs_n n3]
      by_cases z : a = 97
      · subst z; exact up_i (fun y => n1 ⟨rfl, Or.inr y⟩)
      · exact up_a z) (rs_s _ _ _)
    refine ⟨rs G2 110 (hrM (h 2 3) (h 2 4) v2), .inl (dwF (tuF x2) (h 2 4)), .inl (dwF (tuF (tuF x2)) 2), .inl (dwF (tuF (tuF (tuF x2))) 20 + 1), y7, rfl, rfl, rfl, cy, ?_, b1, b2, b3, ?_⟩
    · rw [q248_29 (hz2 := rfl) (hz4 := c4) (hz5 := c5) (hz6 := c6) (hz7 := c7), if_neg (by omega), m_remember _ _ (by omega) (by omega), cV_some]
      have := ref1 (remM H) (fun g => Run 40 248 65 [vR 97, .inl n, .inr (.inl s0), vU, .inl j, z4, z5, z6, z7] [] g) k1 k2 k3
      refine this.trans ?_
      rw [q248_65 (hz2 := rfl) (hz4 := c4) (hz5 := c5) (hz6 := c6) (hz7 := c7), cr, m_draw _ _ _ (by omega), cI_some, xv, xs, m_draw _ _ _ (by omega), cI_some, xv, xs, m_draw _ _ _ (by omega), cI_some, xv, xs, wI_ok (x := dwF (tuF (tuF (tuF x2))) 20 + 1) (by omega) (by omega)]
      refine u1.trans ?_
      rw [go, cV_some, wI_ok (by omega) (by omega)]
    · rw [rs_n (by omega), u2 _ _ (fun z => npr (by omega) z.2) (by omega) (by omega), xv]
theorem c_decades {b : Int} {Ws : Nat → WF} {h : MH} (i : InvX b Ws h) (hb : b ≤ 700000) (x s0 : Int) : PrX b (b + 60) Ws 101 248 [vR 0, .inl x, .inr (.inl s0), vU, vU, vU, vU] [vR 97, .inl x, .inr (.inl s0), vU, vU, vU, vU, vU, vU] h := by
  obtain ⟨l1, l2, l3, l4, l5, l6, l7⟩ := lg_n i.1.1
  have o := nowOK i.1.1
  obtain ⟨-, -, s1, s2, s3, s4, s5, s6⟩ := nowR i.1.1
  have o4 := o.1.2.2.2.2.1
  obtain ⟨-, ⟨td1, td2, td3⟩, -⟩ := (Inv0_iff b h).mp i.1.1
  by_cases q : 0 < h 2 3 ∧ (1 ≤ x ∧ x ≤ 60) ∧ h 91 4 + x ≤ 9999
  · obtain ⟨qf, qx, q4⟩ := id q
    have key : ∀ (r j : Nat) (hc hm : MH) (y : Int), (j : Int) + r = x → Inv0 (b + j) (mix hc hm) → resL (mix hc hm) = resL h → SF h hc → SF h hm → hc 0 14 = h 0 14 → hm 97 35 = h 0 14 → hc 91 4 + r ≤ 9999 →
        ∃ v hc2 hm2, (∀ H, SF h H → CS hc H → ∃ H2, Run 40 101 16 [vR 0, .inl x, .inr (.inl s0), vU, .inr (.inl y), vU, .inl (j : Int)] [] H = some (some (.inl v), H2) ∧ SF h H2 ∧ CS hc2 H2 ∧ Kc H H2) ∧ (∀ (H : MH) (z4 z5 z6 z7 : MV), cat z4 = 1 → cat z5 = 1 → cat z6 = 1 → cat z7 = 1 → SF h H → MS hm H → H 97 38 = y → ∃ H2, Run 40 248 29 [vR 97, .inl x, .inr (.inl s0), vU, .inl (j : Int), z4, z5, z6, z7] [] H = some (some (.inl v), H2) ∧ MS hm2 H2 ∧ Km H H2) ∧ Inv0 (b + x) (mix hc2 hm2) ∧ resL (mix hc2 hm2) = resL h := by
      intro r
      induction r with
      | zero =>
        intro j hc hm y hj inv rl sc sm dc dm h4
        have r5 : hm 110 35 = hc 91 4 := (nowR inv).2.2.2.2.2.2.1
        refine ⟨hc 91 4, hc, hm, fun H sf cs => ⟨H, ?_, sf, cs, fun _ _ => rfl⟩, fun H z4 z5 z6 z7 c4 c5 c6 c7 sf ms _ => ⟨H, ?_, ms, fun _ _ => rfl⟩, ?_, rl⟩
        · rw [q101_16 (hz2 := rfl) (hz4 := rfl), if_pos (by omega), cs _ _ rfl (by omega)]
        · rw [q248_29 (hz2 := rfl) (hz4 := c4) (hz5 := c5) (hz6 := c6) (hz7 := c7), if_pos (by omega), ms _ _ rfl (by omega), r5]
        · rw [← hj]
          have : b + (((j : Nat) : Int) + ((0 : Nat) : Int)) = b + j := by omega
          rw [this]
          exact inv
      | succ r ih =>
        intro j hc hm y hj inv rl sc sm dc dm h4
        obtain ⟨c3, v3, sh2, x5, ss, e4, cls, ref⟩ := dec_hour (x := y) i.1.F qf (by omega) inv sc sm dc dm (by omega)
        have ai := act_inv inv (by omega) ss
        have aC : ∀ a, a ≠ 92 → a ≠ 91 → acC hc c3 sh2 a = keepC hc a := fun a n1 n2 => by unfold acC; rw [rs_n n1, rs_n n2]
        have hist := hist_n inv
        have hh2 : 0 ≤ hc 11 2 ∧ hc 11 2 < 40 := hist.2.1
        have sc2 := (act_C (H := hc) (H2 := acC hc c3 sh2) (hc := hc) sc (fun _ _ _ _ => rfl) hh2.1 hh2.2 (fun a _ _ n3 n4 => aC a n4 n3) rfl rfl).1
        have sm2 := (act_M (H := hm) (H2 := acM hm v3) (hm := hm) sm (fun _ _ _ _ => rfl) (fun a j _ _ n3 => by unfold acM; rw [rs_n n3]) rfl).1
        obtain ⟨v, hc2, hm2, u1, u2, u3, u4⟩ := ih (j + 1) (acC hc c3 sh2) (acM hm v3) x5 (by omega) (by rw [show b + (((j + 1 : Nat)) : Int) = b + j + 1 by omega]; exact ai.1) (by rw [ai.2, rl]) sc2 sm2 (by rw [aC _ (by omega) (by omega), keepC_ne hh2.2 (by omega) (by omega)]; exact dc) (by unfold acM; rw [rs_n (by omega), remM_f (by omega)]; exact dm) (by
          have : acC hc c3 sh2 91 = c3 := by unfold acC; rw [rs_n (by omega), rs_s]
          rw [this, e4]; omega)
        refine ⟨v, hc2, hm2, fun H sf cs => ?_, fun H z4 z5 z6 z7 c4 c5 c6 c7 sf ms hx => ?_, u3, u4⟩
        · obtain ⟨H2, w1, w2, w3, w4⟩ := cls H x j s0 sf cs (by omega) (by omega) (by omega)
          obtain ⟨H3, w5, w6, w7, w8⟩ := u1 H2 w2 w3
          refine ⟨H3, ?_, w6, w7, w4.tr w8⟩
          rw [w1, show (j : Int) + 1 = ((j + 1 : Nat) : Int) by omega]
          exact w5
        · obtain ⟨H2, y4, y5, y6, y7, e4', e5', e6', e7', w1, w2, w3, w4, w5⟩ := ref H x j s0 z4 z5 z6 z7 c4 c5 c6 c7 sf ms hx (by omega) (by omega) (by omega)
          obtain ⟨H3, w6, w7, w8⟩ := u2 H2 y4 y5 y6 y7 e4' e5' e6' e7' w2 w3 w5
          refine ⟨H3, ?_, w7, w4.tr w8⟩
          rw [w1, show (j : Int) + 1 = ((j + 1 : Nat) : Int) by omega]
          exact w6
    obtain ⟨v, hc2, hm2, u1, u2, u3, u4⟩ := key x.toNat 0 h h s0 (by omega) (by rw [mix_self, show b + ((0 : Nat) : Int) = b by omega]; exact i.1.1) (by rw [mix_self]) (SF.rf h) (SF.rf h) rfl td1 (by omega)
    obtain ⟨H1, w1, w2, w3, w4⟩ := u1 h (SF.rf h) (fun _ _ _ _ => rfl)
    have sfG : SF h (up (up H1 97 0 0) 97 38 s0) := fun a j rr => by
      by_cases za : a = 97
      · subst za
        rw [up_i (fun z => by subst z; exact Bool.false_ne_true rr), up_i (fun z => by subst z; exact Bool.false_ne_true rr)]
        exact w2 _ j rr
      · rw [up_a za, up_a za]; exact w2 a j rr
    have msG : MS h (up (up H1 97 0 0) 97 38 s0) := fun a j rr ha => by
      by_cases za : a = 97
      · subst za
        rw [up_i (fun z => by subst z; exact Bool.false_ne_true rr), up_i (fun z => by subst z; exact Bool.false_ne_true rr), w4 _ (by omega)]
      · rw [up_a za, up_a za, w4 a ha]
    obtain ⟨H2, t1, t2, t3⟩ := u2 (up (up H1 97 0 0) 97 38 s0) vU vU vU vU rfl rfl rfl rfl sfG msG (up_s _ _ _ _)
    have n0 : up H1 97 0 0 110 35 = h 91 4 := by rw [up_a (by omega), w4 _ (by omega), s5]
    have m0 : up H1 97 0 0 97 26 = h 2 3 := by rw [up_i (by omega), w4 _ (by omega), l1]
    refine PrX_S i (hc := hc2) (hm := hm2) (H1 := H1) (H2 := H2) (v := v) ?_ w3 ?_ t2 (Km.tr (fun a ha => by rw [up_ne (by omega), up_ne (by omega)]) t3) (Inv_mono (by omega) u3) u4
    · rw [q101_0, e_hoursFit _ _ _ o4.1 o4.2, cI_some, bi_t q, if_pos (by omega)]
      exact w1
    · rw [q248_0, m_mayPass _ _ _ _ (by rw [n0]; exact o4.1) (by rw [n0]; exact o4.2) (by omega), cI_some, m0, n0, bi_t q, if_pos (by omega)]
      exact t1
  · refine Pr_X i (Pr_mono (by omega) (Pr_no i.1.1 (v := -1) ?_ ?_))
    · rw [q101_0, e_hoursFit _ _ _ o4.1 o4.2, cI_some, bi_f q, if_neg (by omega)]
    · rw [q248_0, m_mayPass _ _ _ _ (by rw [up_a (by omega), s5]; exact o4.1) (by rw [up_a (by omega), s5]; exact o4.2) (by omega), cI_some, up_i (by omega), up_a (by omega), l1, s5, bi_f q, if_neg (by omega)]
