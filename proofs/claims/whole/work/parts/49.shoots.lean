/-! the reference's shot -/
def sfF (w : Nat → Int) (x : Nat) : Nat → Int := fun j => if 37 ≤ j ∧ j < 37 + x then w (j + 4) else w j
theorem m_note (d : Nat) (k fr L pw : Int) (z2 z3 z6 : MV) (h2 : cat z2 = 1) (h3 : cat z3 = 1) (h6 : cat z6 = 1) (h : MH) (h0 : 0 ≤ h 110 36) (h1 : h 110 36 ≤ 59) : Run (d + 1) 230 166 [vR 97, vR 110, .inl k, .inl pw, z2, z3, .inl fr, .inl L, z6] [] h = some (some (.inl L), rs h 110 (su (su4 (h 110) (37 + 4 * (h 110 36).toNat) k fr L pw) 36 (h 110 36 + 1))) := by
  have e0 : wI (37 + wI (4 * h 110 36)) = 37 + 4 * h 110 36 := by
    rw [wI_ok (x := 4 * h 110 36) (by omega) (by omega), wI_ok (by omega) (by omega)]
  rw [q230_166 (hz2 := h2) (hz3 := h3) (hz6 := h6)]
  simp (disch := omega) only [e0, wI_ok, if_pos, up_i]
  rw [show (37 + 4 * h 110 36).toNat = 37 + 4 * (h 110 36).toNat by omega, show (37 + 4 * h 110 36 + 1).toNat = 37 + 4 * (h 110 36).toNat + 1 by omega, show (37 + 4 * h 110 36 + 2).toNat = 37 + 4 * (h 110 36).toNat + 2 by omega, show (37 + 4 * h 110 36 + 3).toNat = 37 + 4 * (h 110 36).toNat + 3 by omega, nt4, up_rs]
theorem m_logs (d : Nat) (k fr L pw : Int) (z2 z3 z6 : MV) (h2 : cat z2 = 1) (h3 : cat z3 = 1) (h6 : cat z6 = 1) (h : MH) (h0 : 0 ≤ h 110 36) (h1 : h 110 36 ≤ 60) : (if ¬ h 110 36 = 60 then Run (d + 1) 230 166 [vR 97, vR 110, .inl k, .inl pw, z2, z3, .inl fr, .inl L, z6] [] h else Run (d + 1) 230 128 [vR 97, vR 110, .inl k, .inl pw, z2, z3, .inl fr, .inl L, .inl 1] [] h) = some (some (.inl L), rs h 110 (lgM (h 110) k fr L pw)) := by
  unfold lgM
  by_cases q : h 110 36 = 60
  · rw [if_neg (fun z => z q), if_pos q]
    have key : ∀ (r x : Nat), x + r = 236 → Run (d + 1) 230 128 [vR 97, vR 110, .inl k, .inl pw, z2, z3, .inl fr, .inl L, .inl ((x : Int) + 1)] [] (rs h 110 (sfF (h 110) x)) = some (some (.inl L), rs h 110 (su (su4 (su (sfF (h 110) 236) 36 59) 273 k fr L pw) 36 60)) := by
      intro r
      induction r with
      | zero =>
        intro x hx
        have : x = 236 := by omega
        subst this
        have e36 : sfF (h 110) 236 36 = 60 := by unfold sfF; rw [if_neg (by omega), q]
        rw [q230_128 (hz2 := h2) (hz3 := h3), if_pos (by omega), rs_s, e36, wI_ok (by omega) (by omega), up_rs, show (60 : Int) - 1 = 59 by omega, m_note d k fr L pw z2 z3 _ h2 h3 rfl _ (by rw [rs_s, su_s]; omega) (by rw [rs_s, su_s]; omega), rs_s, su_s, rs_rs]
        rfl
      | succ r ih =>
        intro x hx
        have e1 : sfF (h 110) x (41 + x) = h 110 (41 + x) := by unfold sfF; rw [if_neg (by omega)]
        rw [q230_128 (hz2 := h2) (hz3 := h3), if_neg (by omega), wI_ok (x := 36 + ((x : Int) + 1)) (by omega) (by omega), wI_ok (x := 36 + ((x : Int) + 1) + 4) (by omega) (by omega), wI_ok (x := (x : Int) + 1 + 1) (by omega) (by omega), if_pos (by omega), if_pos (by omega), rs_s, up_rs, show (36 + ((x : Int) + 1) + 4).toNat = 41 + x by omega, show (36 + ((x : Int) + 1)).toNat = 37 + x by omega, e1, ← ih (x + 1) (by omega)]
        rw [show ((x + 1 : Nat) : Int) + 1 = (x : Int) + 1 + 1 by omega]
        congr 2
        funext j
        unfold su sfF
        by_cases z : j = 37 + x
        · subst z
          rw [if_pos rfl, if_pos (by omega)]
          congr 1
          omega
        · rw [if_neg z]
          by_cases z2 : 37 ≤ j ∧ j < 37 + x
          · rw [if_pos z2, if_pos (by omega)]
          · rw [if_neg z2, if_neg (by omega)]
    have e0 : sfF (h 110) 0 = h 110 := by
      funext j
      unfold sfF
      rw [if_neg (by omega)]
    have := key 236 0 rfl
    rw [e0, rs_id] at this
    exact this
  · rw [if_pos q, if_neg q]
    exact m_note d k fr L pw z2 z3 z6 h2 h3 h6 h h0 (by omega)
theorem m_shoots {Ws : Nat → WF} {h : MH} (i : InvF Ws h) (d : Nat) {b k pw way nw : Int} {c : Nat → Int} (r : stR c (h 110)) (o : stOK (h 2 3) (h 2 4) b c) (hb : b ≤ 900000) (hk0 : 0 ≤ k) (hk1 : k < h 2 4) (hp0 : 1 ≤ pw) (hp1 : pw ≤ 20) :
    ∃ h1, Run (d + 36) 230 0 [vR 97, vR 110, .inl k, .inl pw, .inl way, .inl nw, vU, vU, vU] [] h = some (some (.inl (ldF (h 17) (h 2 3) (plF Ws (h 6 2) (h 17) (h 18) k (c (6 + k).toNat) pw way (c 1) (c 2) (c 3)))), h1) ∧ (∀ a j, ¬ (a = 97 ∧ prF_ j) → a ≠ 101 → a ≠ 110 → h1 a j = h a j) ∧ h1 110 = lgM (shV (h 110) k pw (ldF (h 17) (h 2 3) (plF Ws (h 6 2) (h 17) (h 18) k (c (6 + k).toNat) pw way (c 1) (c 2) (c 3))) nw) k (c (6 + k).toNat) (ldF (h 17) (h 2 3) (plF Ws (h 6 2) (h 17) (h 18) k (c (6 + k).toNat) pw way (c 1) (c 2) (c 3))) pw := by
  obtain ⟨l1, l2, l3, l4, l5, l6, l7⟩ := lgL i.1
  have at_ := so_at o k hk0 hk1
  have va := sr_all r o (by omega) (by omega)
  have vat := st_at r k hk0 (by omega)
  obtain ⟨-, -, s1, s2, s3, s4, s5, s6⟩ := id r
  obtain ⟨o0, o1, o2, o3, -, o5⟩ := o.1
  have v36 : 0 ≤ h 110 36 ∧ h 110 36 ≤ 60 := by rw [s6]; split <;> omega
  obtain ⟨g1, r1, r2⟩ := m_comesToF i d (c := k) (f := c (6 + k).toNat) (p := pw) (way := way) hk0 hk1 at_.1 at_.2 hp0 hp1 (by rw [s2]; exact o1.1) (by rw [s2]; omega) (by rw [s4]; exact o3.1) (by rw [s4]; exact o3.2)
  rw [s2, s3, s4] at r1
  have pb := plF_bF i (c := k) (f := c (6 + k).toNat) (p := pw) (way := way) (wd := c 1) (wy := c 2) (dm := c 3) hk0 hk1 at_.1 at_.2
  generalize hfr : c (6 + k).toNat = fr at r1 pb at_ vat
  generalize hpl : plF Ws (h 6 2) (h 17) (h 18) k fr pw way (c 1) (c 2) (c 3) = pl at r1 pb
  have q3 : g1 110 = h 110 := funext fun j => r2 _ _ (by omega) (by omega)
  have q5 : ∀ f : Nat, (f : Int) < h 2 3 → g1 104 (3 * f) = h 17 (3 * f) := fun f hf => by
    rw [r2 _ _ (by omega) (by omega)]
    have := lfL i.1 (3 * f) (by omega) (by omega)
    rw [show (3 * (f : Int)).toNat = 3 * f by omega] at this
    exact this
  obtain ⟨-, -, -, k1, k2, -⟩ := okL_ i.1 (by omega)
  have ln := m_landsAt (d + 33) pl (h 2 3) g1 (h 17) (by rw [r2 _ _ (fun z => npr (by omega) z.2) (by omega), l1]) (by omega) l4 (by omega) q5 (fun f hf => (k1 f hf).1) k2
  have lb := ldF_b (h 17) (h 2 3) pl l3
  generalize hL : ldF (h 17) (h 2 3) pl = L at ln lb
  have b31 := va 31 (by omega)
  rw [q230_0, m_folk _ _ _ hk0 (by omega), cI_some, if_pos (by omega), vat, r1, cI_some, ln, cI_some, q3, wI_ok (x := h 110 31 - pw) (by omega) (by omega), up_is_rs, q3]
  have frame : ∀ R : Nat → Int, ∀ a j, ¬ (a = 97 ∧ prF_ j) → a ≠ 101 → a ≠ 110 → rs g1 110 R a j = h a j := fun R a j n1 n2 n3 => by rw [rs_n n3, r2 a j n1 n2]
  have e36 := shV_hi (v := h 110) (pw := pw) (nw := nw) (j := 36) hk0 (by omega) (L := L) (by omega) (by omega)
  by_cases q : L = -1
  · refine ⟨rs g1 110 (lgM (shV (h 110) k pw L nw) k fr L pw), ?_, frame _, rs_s _ _ _⟩
    have e1 : su (su (h 110) 31 (h 110 31 - pw)) (16 + 3 * k + 2).toNat 2 = shV (h 110) k pw L nw := by unfold shV; rw [if_pos q]
    rw [if_neg (fun z => z q), m_folk _ _ _ hk0 (by omega), cI_some, wI_ok (x := 16 + 3 * k + 2) (by omega) (by omega), if_pos (by omega), up_rs, e1]
    have := m_logs (d + 35) k fr L pw (.inl way) (.inl nw) vU rfl rfl rfl (rs g1 110 (shV (h 110) k pw L nw)) (by rw [rs_s, e36]; exact v36.1) (by rw [rs_s, e36]; exact v36.2)
    rw [this, rs_s, rs_rs]
  · refine ⟨rs g1 110 (lgM (shV (h 110) k pw L nw) k fr L pw), ?_, frame _, rs_s _ _ _⟩
    have fin : ∀ R : Nat → Int, R = ldM1 (su (h 110) 31 (h 110 31 - pw)) k L → Run (d + 36) 230 96 [vR 97, vR 110, .inl k, .inl pw, .inl way, .inl nw, .inl fr, .inl L, vU] [] (rs g1 110 R) = some (some (.inl L), rs g1 110 (lgM (shV (h 110) k pw L nw) k fr L pw)) := by
      intro R hR
      have e2 : R (8 + L).toNat = su (h 110) 31 (h 110 31 - pw) (8 + L).toNat := by
        rw [hR]
        unfold ldM1
        split
        · rw [su_i (by omega)]
        · rw [su_i (by omega)]
      have e1 : su (su R (16 + 3 * k).toNat L) (8 + L).toNat (iOr (R (8 + L).toNat) nw) = shV (h 110) k pw L nw := by
        unfold shV ldM
        rw [if_neg q, e2, hR]
      rw [q230_96 (hz2 := rfl) (hz6 := rfl), m_folk _ _ _ hk0 (by omega), cI_some, if_pos (by omega), wI_ok (x := 8 + L) (by omega) (by omega), if_pos (by omega), if_pos (by omega), up_rs, rs_s, up_rs, su_i (by omega), e1]
      have := m_logs (d + 35) k fr L pw (.inl way) (.inl nw) vU rfl rfl rfl (rs g1 110 (shV (h 110) k pw L nw)) (by rw [rs_s, e36]; exact v36.1) (by rw [rs_s, e36]; exact v36.2)
      rw [this, rs_s, rs_rs]
    rw [if_pos q, wI_ok (x := 0 + L) (by omega) (by omega), show (0 + L).toNat = L.toNat by omega, if_pos (by omega), rs_s]
    have bl := va L.toNat (by omega)
    have bh := va (16 + 3 * k + 1).toNat (by omega)
    by_cases q2 : su (h 110) 31 (h 110 31 - pw) L.toNat ≤ 0
    · rw [if_pos q2, m_folk _ _ _ hk0 (by omega), cI_some, m_folk _ _ _ hk0 (by omega), cI_some, wI_ok (x := 16 + 3 * k + 1) (by omega) (by omega), if_pos (by omega), if_pos (by omega), rs_s, up_rs, wI_ok (by rw [su_i (by omega)]; omega) (by rw [su_i (by omega)]; omega)]
      exact fin _ (by unfold ldM1; rw [if_pos q2])
    · rw [if_neg q2, if_pos (by omega), if_pos (by omega), up_rs, wI_ok (by rw [su_i (by omega)]; omega) (by rw [su_i (by omega)]; omega)]
      exact fin _ (by unfold ldM1; rw [if_neg q2])
theorem m_noteT (d : Nat) (k fr L pw : Int) (z2 z3 z6 : MV) (h2 : cat z2 = 1) (h3 : cat z3 = 1) (h6 : cat z6 = 1) (h : MH) (h0 : 0 ≤ h 111 36) (h1 : h 111 36 ≤ 59) : Run (d + 1) 230 166 [vR 97, vR 111, .inl k, .inl pw, z2, z3, .inl fr, .inl L, z6] [] h = some (some (.inl L), rs h 111 (su (su4 (h 111) (37 + 4 * (h 111 36).toNat) k fr L pw) 36 (h 111 36 + 1))) := by
  have e0 : wI (37 + wI (4 * h 111 36)) = 37 + 4 * h 111 36 := by
    rw [wI_ok (x := 4 * h 111 36) (by omega) (by omega), wI_ok (by omega) (by omega)]
  rw [q230_166_1 (hz2 := h2) (hz3 := h3) (hz6 := h6)]
  simp (disch := omega) only [e0, wI_ok, if_pos, up_i]
  rw [show (37 + 4 * h 111 36).toNat = 37 + 4 * (h 111 36).toNat by omega, show (37 + 4 * h 111 36 + 1).toNat = 37 + 4 * (h 111 36).toNat + 1 by omega, show (37 + 4 * h 111 36 + 2).toNat = 37 + 4 * (h 111 36).toNat + 2 by omega, show (37 + 4 * h 111 36 + 3).toNat = 37 + 4 * (h 111 36).toNat + 3 by omega, nt4, up_rs]
theorem m_logsT (d : Nat) (k fr L pw : Int) (z2 z3 z6 : MV) (h2 : cat z2 = 1) (h3 : cat z3 = 1) (h6 : cat z6 = 1) (h : MH) (h0 : 0 ≤ h 111 36) (h1 : h 111 36 ≤ 60) : (if ¬ h 111 36 = 60 then Run (d + 1) 230 166 [vR 97, vR 111, .inl k, .inl pw, z2, z3, .inl fr, .inl L, z6] [] h else Run (d + 1) 230 128 [vR 97, vR 111, .inl k, .inl pw, z2, z3, .inl fr, .inl L, .inl 1] [] h) = some (some (.inl L), rs h 111 (lgM (h 111) k fr L pw)) := by
  unfold lgM
  by_cases q : h 111 36 = 60
  · rw [if_neg (fun z => z q), if_pos q]
    have key : ∀ (r x : Nat), x + r = 236 → Run (d + 1) 230 128 [vR 97, vR 111, .inl k, .inl pw, z2, z3, .inl fr, .inl L, .inl ((x : Int) + 1)] [] (rs h 111 (sfF (h 111) x)) = some (some (.inl L), rs h 111 (su (su4 (su (sfF (h 111) 236) 36 59) 273 k fr L pw) 36 60)) := by
      intro r
      induction r with
      | zero =>
        intro x hx
        have : x = 236 := by omega
        subst this
        have e36 : sfF (h 111) 236 36 = 60 := by unfold sfF; rw [if_neg (by omega), q]
        rw [q230_128_1 (hz2 := h2) (hz3 := h3), if_pos (by omega), rs_s, e36, wI_ok (by omega) (by omega), up_rs, show (60 : Int) - 1 = 59 by omega, m_noteT d k fr L pw z2 z3 _ h2 h3 rfl _ (by rw [rs_s, su_s]; omega) (by rw [rs_s, su_s]; omega), rs_s, su_s, rs_rs]
        rfl
      | succ r ih =>
        intro x hx
        have e1 : sfF (h 111) x (41 + x) = h 111 (41 + x) := by unfold sfF; rw [if_neg (by omega)]
        rw [q230_128_1 (hz2 := h2) (hz3 := h3), if_neg (by omega), wI_ok (x := 36 + ((x : Int) + 1)) (by omega) (by omega), wI_ok (x := 36 + ((x : Int) + 1) + 4) (by omega) (by omega), wI_ok (x := (x : Int) + 1 + 1) (by omega) (by omega), if_pos (by omega), if_pos (by omega), rs_s, up_rs, show (36 + ((x : Int) + 1) + 4).toNat = 41 + x by omega, show (36 + ((x : Int) + 1)).toNat = 37 + x by omega, e1, ← ih (x + 1) (by omega)]
        rw [show ((x + 1 : Nat) : Int) + 1 = (x : Int) + 1 + 1 by omega]
        congr 2
        funext j
        unfold su sfF
        by_cases z : j = 37 + x
        · subst z
          rw [if_pos rfl, if_pos (by omega)]
          congr 1
          omega
        · rw [if_neg z]
          by_cases z2 : 37 ≤ j ∧ j < 37 + x
          · rw [if_pos z2, if_pos (by omega)]
          · rw [if_neg z2, if_neg (by omega)]
    have e0 : sfF (h 111) 0 = h 111 := by
      funext j
      unfold sfF
      rw [if_neg (by omega)]
    have := key 236 0 rfl
    rw [e0, rs_id] at this
    exact this
  · rw [if_pos q, if_neg q]
    exact m_noteT d k fr L pw z2 z3 z6 h2 h3 h6 h h0 (by omega)
theorem m_shootsT {Ws : Nat → WF} {h : MH} (i : InvF Ws h) (d : Nat) {b k pw way nw : Int} {c : Nat → Int} (r : stR c (h 111)) (o : stOK (h 2 3) (h 2 4) b c) (hb : b ≤ 900000) (hk0 : 0 ≤ k) (hk1 : k < h 2 4) (hp0 : 1 ≤ pw) (hp1 : pw ≤ 20) :
    ∃ h1, Run (d + 36) 230 0 [vR 97, vR 111, .inl k, .inl pw, .inl way, .inl nw, vU, vU, vU] [] h = some (some (.inl (ldF (h 17) (h 2 3) (plF Ws (h 6 2) (h 17) (h 18) k (c (6 + k).toNat) pw way (c 1) (c 2) (c 3)))), h1) ∧ (∀ a j, ¬ (a = 97 ∧ prF_ j) → a ≠ 101 → a ≠ 111 → h1 a j = h a j) ∧ h1 111 = lgM (shV (h 111) k pw (ldF (h 17) (h 2 3) (plF Ws (h 6 2) (h 17) (h 18) k (c (6 + k).toNat) pw way (c 1) (c 2) (c 3))) nw) k (c (6 + k).toNat) (ldF (h 17) (h 2 3) (plF Ws (h 6 2) (h 17) (h 18) k (c (6 + k).toNat) pw way (c 1) (c 2) (c 3))) pw := by
  obtain ⟨l1, l2, l3, l4, l5, l6, l7⟩ := lgL i.1
  have at_ := so_at o k hk0 hk1
  have va := sr_all r o (by omega) (by omega)
  have vat := st_at r k hk0 (by omega)
  obtain ⟨-, -, s1, s2, s3, s4, s5, s6⟩ := id r
  obtain ⟨o0, o1, o2, o3, -, o5⟩ := o.1
  have v36 : 0 ≤ h 111 36 ∧ h 111 36 ≤ 60 := by rw [s6]; split <;> omega
  obtain ⟨g1, r1, r2⟩ := m_comesToTF i d (c := k) (f := c (6 + k).toNat) (p := pw) (way := way) hk0 hk1 at_.1 at_.2 hp0 hp1 (by rw [s2]; exact o1.1) (by rw [s2]; omega) (by rw [s4]; exact o3.1) (by rw [s4]; exact o3.2)
  rw [s2, s3, s4] at r1
  have pb := plF_bF i (c := k) (f := c (6 + k).toNat) (p := pw) (way := way) (wd := c 1) (wy := c 2) (dm := c 3) hk0 hk1 at_.1 at_.2
  generalize hfr : c (6 + k).toNat = fr at r1 pb at_ vat
  generalize hpl : plF Ws (h 6 2) (h 17) (h 18) k fr pw way (c 1) (c 2) (c 3) = pl at r1 pb
  have q3 : g1 111 = h 111 := funext fun j => r2 _ _ (by omega) (by omega)
  have q5 : ∀ f : Nat, (f : Int) < h 2 3 → g1 104 (3 * f) = h 17 (3 * f) := fun f hf => by
    rw [r2 _ _ (by omega) (by omega)]
    have := lfL i.1 (3 * f) (by omega) (by omega)
    rw [show (3 * (f : Int)).toNat = 3 * f by omega] at this
    exact this
  obtain ⟨-, -, -, k1, k2, -⟩ := okL_ i.1 (by omega)
  have ln := m_landsAt (d + 33) pl (h 2 3) g1 (h 17) (by rw [r2 _ _ (fun z => npr (by omega) z.2) (by omega), l1]) (by omega) l4 (by omega) q5 (fun f hf => (k1 f hf).1) k2
  have lb := ldF_b (h 17) (h 2 3) pl l3
  generalize hL : ldF (h 17) (h 2 3) pl = L at ln lb
  have b31 := va 31 (by omega)
  rw [q230_0_1, m_folk _ _ _ hk0 (by omega), cI_some, if_pos (by omega), vat, r1, cI_some, ln, cI_some, q3, wI_ok (x := h 111 31 - pw) (by omega) (by omega), up_is_rs, q3]
  have frame : ∀ R : Nat → Int, ∀ a j, ¬ (a = 97 ∧ prF_ j) → a ≠ 101 → a ≠ 111 → rs g1 111 R a j = h a j := fun R a j n1 n2 n3 => by rw [rs_n n3, r2 a j n1 n2]
  have e36 := shV_hi (v := h 111) (pw := pw) (nw := nw) (j := 36) hk0 (by omega) (L := L) (by omega) (by omega)
  by_cases q : L = -1
  · refine ⟨rs g1 111 (lgM (shV (h 111) k pw L nw) k fr L pw), ?_, frame _, rs_s _ _ _⟩
    have e1 : su (su (h 111) 31 (h 111 31 - pw)) (16 + 3 * k + 2).toNat 2 = shV (h 111) k pw L nw := by unfold shV; rw [if_pos q]
    rw [if_neg (fun z => z q), m_folk _ _ _ hk0 (by omega), cI_some, wI_ok (x := 16 + 3 * k + 2) (by omega) (by omega), if_pos (by omega), up_rs, e1]
    have := m_logsT (d + 35) k fr L pw (.inl way) (.inl nw) vU rfl rfl rfl (rs g1 111 (shV (h 111) k pw L nw)) (by rw [rs_s, e36]; exact v36.1) (by rw [rs_s, e36]; exact v36.2)
    rw [this, rs_s, rs_rs]
  · refine ⟨rs g1 111 (lgM (shV (h 111) k pw L nw) k fr L pw), ?_, frame _, rs_s _ _ _⟩
    have fin : ∀ R : Nat → Int, R = ldM1 (su (h 111) 31 (h 111 31 - pw)) k L → Run (d + 36) 230 96 [vR 97, vR 111, .inl k, .inl pw, .inl way, .inl nw, .inl fr, .inl L, vU] [] (rs g1 111 R) = some (some (.inl L), rs g1 111 (lgM (shV (h 111) k pw L nw) k fr L pw)) := by
      intro R hR
      have e2 : R (8 + L).toNat = su (h 111) 31 (h 111 31 - pw) (8 + L).toNat := by
        rw [hR]
        unfold ldM1
        split
        · rw [su_i (by omega)]
        · rw [su_i (by omega)]
      have e1 : su (su R (16 + 3 * k).toNat L) (8 + L).toNat (iOr (R (8 + L).toNat) nw) = shV (h 111) k pw L nw := by
        unfold shV ldM
        rw [if_neg q, e2, hR]
      rw [q230_96_1 (hz2 := rfl) (hz6 := rfl), m_folk _ _ _ hk0 (by omega), cI_some, if_pos (by omega), wI_ok (x := 8 + L) (by omega) (by omega), if_pos (by omega), if_pos (by omega), up_rs, rs_s, up_rs, su_i (by omega), e1]
      have := m_logsT (d + 35) k fr L pw (.inl way) (.inl nw) vU rfl rfl rfl (rs g1 111 (shV (h 111) k pw L nw)) (by rw [rs_s, e36]; exact v36.1) (by rw [rs_s, e36]; exact v36.2)
      rw [this, rs_s, rs_rs]
    rw [if_pos q, wI_ok (x := 0 + L) (by omega) (by omega), show (0 + L).toNat = L.toNat by omega, if_pos (by omega), rs_s]
    have bl := va L.toNat (by omega)
    have bh := va (16 + 3 * k + 1).toNat (by omega)
    by_cases q2 : su (h 111) 31 (h 111 31 - pw) L.toNat ≤ 0
    · rw [if_pos q2, m_folk _ _ _ hk0 (by omega), cI_some, m_folk _ _ _ hk0 (by omega), cI_some, wI_ok (x := 16 + 3 * k + 1) (by omega) (by omega), if_pos (by omega), if_pos (by omega), rs_s, up_rs, wI_ok (by rw [su_i (by omega)]; omega) (by rw [su_i (by omega)]; omega)]
      exact fin _ (by unfold ldM1; rw [if_pos q2])
    · rw [if_neg q2, if_pos (by omega), if_pos (by omega), up_rs, wI_ok (by rw [su_i (by omega)]; omega) (by rw [su_i (by omega)]; omega)]
      exact fin _ (by unfold ldM1; rw [if_neg q2])
