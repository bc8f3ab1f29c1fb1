/-! plans that are followed -/
theorem rel_pl (j : Nat) : ∀ k, k < 4 → relF (33 + k) j = true
  | 0, _ => rfl
  | 1, _ => rfl
  | 2, _ => rfl
  | 3, _ => rfl
  | k + 4, h => absurd h (by omega)
/-- a step of a plan -/
def plS (h : MH) (k i : Nat) (w : Nat) : Int := h (33 + k) (4 * i + w)
theorem e_part (d : Nat) {h H : MH} (sf : SF h H) {k i w : Nat} (hk : k < 4) (hi : i < 16) (hw : w < 4) : Run d 115 0 [vR 7, .inl (k : Int), .inl (i : Int), .inl (w : Int)] [] H = some (some (.inl (plS h k i w)), H) := by
  rw [q115_0, if_pos (by omega), wI_ok (x := (i : Int) * 4) (by omega) (by omega), wI_ok (by omega) (by omega), if_pos (by omega), show ((k : Nat) : Int).toNat = k by omega, show ((i : Int) * 4 + (w : Int)).toNat = 4 * i + w by omega, sf _ _ (rel_pl _ k hk)]
  rfl
abbrev stP (f n : Int) (c : Nat → Int) (p : Nat → Int) : Prop := (p 0 = 0 ∧ canP n (p 1) (p 3) c) ∨ (p 0 = 1 ∧ 0 < p 1 ∧ c 4 + p 1 ≤ 9999) ∨ (p 0 = 2 ∧ ¬ (c 1 = p 1 ∧ c 2 = p 2)) ∨ (p 0 = 3 ∧ (0 ≤ p 1 ∧ p 1 < f) ∧ (0 ≤ p 2 ∧ p 2 < 6) ∧ iAnd (iShr (c (29 + p 1).toNat) (p 2)) 1 = 0)
/-- what one act of a step needs -/
abbrev acP (f n : Int) (c : Nat → Int) (p : Nat → Int) : Prop := (p 0 = 0 → canP n (p 1) (p 3) c) ∧ (p 0 = 1 → c 4 + 1 ≤ 9999) ∧ (p 0 = 3 → (0 ≤ p 1 ∧ p 1 < f) ∧ (0 ≤ p 2 ∧ p 2 < 6))
noncomputable def spC (Ws : Nat → WF) (h : MH) (c p : Nat → Int) : Nat → Int := if p 0 = 0 then shC c (p 1) (p 3) (lnF Ws h c (p 1) (p 3) (p 2)) (nwF h c (p 1)) else if p 0 = 1 then hrC (h 2 3) c else if p 0 = 2 then su (su c 1 (p 1)) 2 (p 2) else su c (29 + p 1).toNat (iOr (c (29 + p 1).toNat) (iShl 1 (p 2)))
noncomputable def spV (Ws : Nat → WF) (h : MH) (c v p : Nat → Int) : Nat → Int := if p 0 = 0 then lgM (shV v (p 1) (p 3) (lnF Ws h c (p 1) (p 3) (p 2)) (nwF h c (p 1))) (p 1) (c (6 + p 1).toNat) (lnF Ws h c (p 1) (p 3) (p 2)) (p 3) else if p 0 = 1 then hrM (h 2 3) (h 2 4) v else if p 0 = 2 then su (su v 32 (p 1)) 33 (p 2) else su v (8 + p 1).toNat (iOr (v (8 + p 1).toNat) (iShl 1 (p 2)))
noncomputable def spS (Ws : Nat → WF) (h : MH) (c sh p : Nat → Int) : Nat → Int := if p 0 = 0 then su4 sh (4 * ((c 5).toNat % 100)) (p 1) (c (6 + p 1).toNat) (lnF Ws h c (p 1) (p 3) (p 2)) (p 3) else sh
theorem sp_SS {Ws : Nat → WF} {h : MH} (i : iLg h) {b : Int} {c v sh p : Nat → Int} (r : stR c v) (o : stOK (h 2 3) (h 2 4) b c) (hp : plOK p) (q : acP (h 2 3) (h 2 4) c p) : SS (h 2 3) (h 2 4) (b + 1) c v sh (spC Ws h c p) (spV Ws h c v p) (spS Ws h c sh p) := by
  obtain ⟨l1, l2, l3, l4, l5, l6, l7⟩ := lgL i
  have omono : ∀ c2, stOK (h 2 3) (h 2 4) b c2 → stOK (h 2 3) (h 2 4) (b + 1) c2 := fun c2 o2 => stOK_congr (by omega) (fun _ _ => rfl) l4 l6 o2
  obtain ⟨p0, p1, p2, p3, p4, p5, p6⟩ := hp
  unfold spC spV spS
  by_cases z0 : p 0 = 0
  · have := mc_SS (Ws := Ws) i (sh := sh) (k := p 1) (pw := p 3) (way := p 2) r o
    unfold mcC mcV mcS at this
    rw [if_pos (q.1 z0), if_pos (q.1 z0), if_pos (q.1 z0)] at this
    rw [if_pos z0, if_pos z0, if_pos z0]
    exact this
  · rw [if_neg z0, if_neg z0, if_neg z0]
    by_cases z1 : p 0 = 1
    · rw [if_pos z1, if_pos z1]
      exact ⟨hr_R r o l4 l6, omono _ (hr_OK o l4 l6 (q.2.1 z1)), Or.inl ⟨hrC_o l4 (by omega) (by omega), rfl, fun j a b => hrM_o l4 l6 (by omega) (by omega) (by omega)⟩⟩
    · rw [if_neg z1, if_neg z1]
      by_cases z2 : p 0 = 2
      · rw [if_pos z2, if_pos z2]
        refine ⟨stR_x (stR_x r 1 (p 1) (by omega)) 2 (p 2) (by omega), omono _ (stOK_x (stOK_x o 1 (p 1) (by omega) l6 l4 (by omega) (by omega) (by omega) (by omega) (by omega)) 2 (p 2) (by omega) l6 l4 (by omega) (by omega) (by omega) (by omega) (by omega)), Or.inl ⟨?_, rfl, fun j a b => ?_⟩⟩
        · rw [su_i (by omega), su_i (by omega)]
        · rw [su_i (by omega), su_i (by omega)]
      · rw [if_neg z2, if_neg z2]
        have z3 : p 0 = 3 := by omega
        obtain ⟨q1, q2⟩ := q.2.2 z3
        have e := st_news r (p 1) q1.1 (by omega)
        have nb := so_news o (p 1) q1.1 (by omega)
        have sl := shl_le (k := p 2) (n := 6) q2.1 (by omega) (by omega)
        have ob := or_le (k := 6) (x := c (29 + p 1).toNat) (y := iShl 1 (p 2)) (by omega) nb.1 (by omega) sl.1 sl.2
        rw [e]
        refine ⟨stR_news r (p 1) _ q1.1 (by omega), omono _ (stOK_news o (p 1) _ q1.1 q1.2 (by omega) l6 l4), Or.inl ⟨?_, rfl, fun j a b => ?_⟩⟩
        · rw [su_i (by omega)]
        · rw [su_i (by omega)]
theorem st_ac {f n : Int} {c p : Nat → Int} (q : stP f n c p) : acP f n c p := by
  rcases q with ⟨q0, q1⟩ | ⟨q0, q1, q2⟩ | ⟨q0, q1⟩ | ⟨q0, q1, q2, q3⟩
  · exact ⟨fun _ => q1, fun z => by omega, fun z => by omega⟩
  · exact ⟨fun z => by omega, fun _ => by omega, fun z => by omega⟩
  · exact ⟨fun z => by omega, fun z => by omega, fun z => by omega⟩
  · exact ⟨fun z => by omega, fun z => by omega, fun _ => ⟨q1, q2⟩⟩
theorem e_canHearT (d : Nat) (x y : Int) (h : MH) (h8 : h 2 3 ≤ 8) : Run (d + 1) 91 0 [vR 0, vR 13, .inl x, .inl y] [] h = some (some (.inl (bi ((0 ≤ x ∧ x < h 2 3) ∧ (0 ≤ y ∧ y < 6) ∧ iAnd (iShr (h 93 (29 + x).toNat) y) 1 = 0))), h) := by
  rw [q91_0_1, e_hasFort, cI_some]
  by_cases q1 : 0 ≤ x ∧ x < h 2 3
  · rw [bi_t q1, if_neg (by omega), e_isNews, cI_some]
    by_cases q2 : 0 ≤ y ∧ y < 6
    · rw [bi_t q2, if_neg (by omega), wI_ok (x := 29 + x) (by omega) (by omega), if_pos (by omega)]
      by_cases q3 : iAnd (iShr (h 93 (29 + x).toNat) y) 1 = 0
      · rw [if_neg (fun z => z q3), bi_t ⟨q1, q2, q3⟩]
      · rw [if_pos q3, bi_f (fun z => q3 z.2.2)]
    · rw [bi_f q2, if_pos rfl, bi_f (fun z => q2 z.2.1)]
  · rw [bi_f q1, if_pos rfl, bi_f (fun z => q1 z.1)]
theorem m_canHearT (d : Nat) (x y : Int) (h : MH) (h8 : h 97 26 ≤ 8) : Run (d + 1) 238 0 [vR 97, vR 111, .inl x, .inl y] [] h = some (some (.inl (bi ((0 ≤ x ∧ x < h 97 26) ∧ (0 ≤ y ∧ y < 6) ∧ iAnd (iShr (h 111 (8 + x).toNat) y) 1 = 0))), h) := by
  rw [q238_0_1, m_isFort, cI_some]
  by_cases q1 : 0 ≤ x ∧ x < h 97 26
  · rw [bi_t q1, if_neg (by omega), m_isIn, cI_some]
    by_cases q2 : 0 ≤ y ∧ y < 6
    · rw [bi_t (c := 0 ≤ y ∧ y ≤ 5) (by omega), if_neg (by omega), wI_ok (x := 8 + x) (by omega) (by omega), if_pos (by omega), m_has, cI_some]
      by_cases q3 : iAnd (iShr (h 111 (8 + x).toNat) y) 1 = 0
      · rw [if_neg (fun z => z q3), bi_t ⟨q1, q2, q3⟩]
      · rw [if_pos q3, bi_f (fun z => q3 z.2.2)]
    · rw [bi_f (c := 0 ≤ y ∧ y ≤ 5) (by omega), if_pos rfl, bi_f (fun z => q2 z.2.1)]
  · rw [bi_f q1, if_pos rfl, bi_f (fun z => q1 z.1)]
theorem e_canStep {Ws : Nat → WF} {h H : MH} (i : InvF Ws h) (sf : SF h H) (d : Nat) {b : Int} {c : Nat → Int} (ec : H 91 = c) (o : stOK (h 2 3) (h 2 4) b c) {k j : Nat} (hk : k < 4) (hj : j < 16) (hp : plOK (plS h k j)) : Run (d + 2) 118 0 [vR 0, vR 12, .inl (k : Int), .inl (j : Int), vU, vU] [] H = some (some (.inl (bi (stP (h 2 3) (h 2 4) c (plS h k j)))), H) := by
  obtain ⟨l1, l2, l3, l4, l5, l6, l7⟩ := lgL i.1
  obtain ⟨d1, d2, d3, d4, d5, d6, d7, d8, d9⟩ := sf.dat
  have a0 := e_part (d + 1) sf hk hj (w := 0) (by omega)
  have a1 := e_part (d + 1) sf hk hj (w := 1) (by omega)
  have a2 := e_part (d + 1) sf hk hj (w := 2) (by omega)
  have a3 := e_part (d + 1) sf hk hj (w := 3) (by omega)
  have o4 := o.1.2.2.2.2.1
  rw [q118_0_1]
  refine (congrArg (fun t => cI t _) a1).trans ?_
  rw [cI_some]
  refine (congrArg (fun t => cI t _) a2).trans ?_
  rw [cI_some]
  refine (congrArg (fun t => cI t _) a0).trans ?_
  rw [cI_some]
  generalize plS h k j = p at hp a0 a1 a2 a3
  obtain ⟨p0, p1, p2, p3, p4, p5, p6⟩ := hp
  by_cases z0 : p 0 = 0
  · rw [if_pos z0]
    refine (congrArg (fun t => cI t _) a3).trans ?_
    rw [cI_some, e_canFire _ _ _ _ (by rw [d5]; exact l6), cI_some, d5, ec, if_pos (bi_01 _)]
    congr 4
    apply bi_congr
    constructor
    · intro z; exact Or.inl ⟨z0, z⟩
    · rintro (z | z | z | z)
      · exact z.2
      · exact absurd z0 (by omega)
      · exact absurd z0 (by omega)
      · exact absurd z0 (by omega)
  · rw [if_neg z0]
    by_cases z1 : p 0 = 1
    · rw [if_pos z1, ec]
      by_cases y1 : p 1 ≤ 0
      · rw [if_pos y1, bi_f (by
          rintro (z | z | z | z)
          · exact z0 z.1
          · omega
          · omega
          · omega)]
      · rw [if_neg y1, wI_ok (by omega) (by omega)]
        by_cases y2 : 9999 < c 4 + p 1
        · rw [if_pos y2, bi_f (by
            rintro (z | z | z | z)
            · exact z0 z.1
            · omega
            · omega
            · omega)]
        · rw [if_neg y2, bi_t (Or.inr (Or.inl ⟨z1, by omega, by omega⟩))]
    · rw [if_neg z1]
      by_cases z2 : p 0 = 2
      · rw [if_pos z2, e_blows, cI_some, ec]
        by_cases y : c 1 = p 1 ∧ c 2 = p 2
        · rw [bi_t y, if_pos (by omega), bi_f (by
            rintro (z | z | z | z)
            · exact z0 z.1
            · omega
            · exact z.2 y
            · omega)]
        · rw [bi_f y, if_neg (by omega), bi_t (Or.inr (Or.inr (Or.inl ⟨z2, y⟩)))]
      · rw [if_neg z2, e_canHear _ _ _ _ (by rw [d4]; exact l4), cI_some, d4, ec, if_pos (bi_01 _)]
        congr 4
        apply bi_congr
        constructor
        · intro z; exact Or.inr (Or.inr (Or.inr ⟨by omega, z⟩))
        · rintro (z | z | z | z)
          · exact absurd z.1 z0
          · exact absurd z.1 z1
          · exact absurd z.1 z2
          · exact z.2
theorem e_stepOnce {Ws : Nat → WF} {h H : MH} (i : InvF Ws h) (sf : SF h H) (d : Nat) {b : Int} {c : Nat → Int} (ec : H 91 = c) (o : stOK (h 2 3) (h 2 4) b c) (hb : b ≤ 900000) {k j : Nat} (hk : k < 4) (hj : j < 16) (hp : plOK (plS h k j)) (q : acP (h 2 3) (h 2 4) c (plS h k j)) :
    ∃ H2, Run (d + 6) 119 0 [vR 0, vR 12, .inl (k : Int), .inl (j : Int), vU, vU] [] H = some (none, H2) ∧ (∀ a, a ≠ 23 → a ≠ 30 → a ≠ 91 → a ≠ 92 → H2 a = H a) ∧ H2 91 = spC Ws h c (plS h k j) ∧ H2 92 = spS Ws h c (H 92) (plS h k j) := by
  obtain ⟨l1, l2, l3, l4, l5, l6, l7⟩ := lgL i.1
  obtain ⟨d1, d2, d3, d4, d5, d6, d7, d8, d9⟩ := sf.dat
  have a0 := e_part (d + 5) sf hk hj (w := 0) (by omega)
  have a1 := e_part (d + 5) sf hk hj (w := 1) (by omega)
  have a2 := e_part (d + 5) sf hk hj (w := 2) (by omega)
  have a3 := e_part (d + 5) sf hk hj (w := 3) (by omega)
  have oa := so_all o (by omega) (by omega)
  have e0 : ∀ t, Run (d + 6) 119 0 [vR 0, vR 12, .inl (k : Int), .inl (j : Int), vU, vU] [] H = t ↔ (if plS h k j 0 = 0 then (cI (Run (d + 5) 105 0 [vR 0, vR 12, .inl (plS h k j 1), vU, vU, vU] [] H) fun a11_ h10_ => cI (Run (d + 5) 78 0 [vR 0, vR 12, .inl (plS h k j 1), .inl (plS h k j 3), .inl (plS h k j 2), .inl a11_, vU, vU] [] h10_) fun a13_ h12_ => some (none, h12_)) else if plS h k j 0 = 1 then (cV (Run (d + 5) 100 0 [vR 12, .inl (H 2 3), vU] [] H) fun h15_ => some (none, h15_)) else if plS h k j 0 = 2 then some (none, up (up H 91 1 (plS h k j 1)) 91 2 (plS h k j 2)) else if 0 ≤ wI (29 + plS h k j 1) ∧ wI (29 + plS h k j 1) < 37 then (if 0 ≤ wI (29 + plS h k j 1) ∧ wI (29 + plS h k j 1) < 37 then some (none, up H 91 (wI (29 + plS h k j 1)).toNat (iOr (H 91 (wI (29 + plS h k j 1)).toNat) (iShl 1 (plS h k j 2)))) else none) else none) = t := by
    intro t
    rw [q119_0_1]
    constructor
    · intro z
      rw [← z]
      symm
      refine (congrArg (fun t => cI t _) a1).trans ?_
      rw [cI_some]
      refine (congrArg (fun t => cI t _) a2).trans ?_
      rw [cI_some]
      refine (congrArg (fun t => cI t _) a0).trans ?_
      rw [cI_some]
      refine ite_congr rfl (fun _ => ?_) (fun _ => rfl)
      refine (congrArg (fun t => cI t _) a3).trans ?_
      rw [cI_some]
    · intro z
      rw [← z]
      refine (congrArg (fun t => cI t _) a1).trans ?_
      rw [cI_some]
      refine (congrArg (fun t => cI t _) a2).trans ?_
      rw [cI_some]
      refine (congrArg (fun t => cI t _) a0).trans ?_
      rw [cI_some]
      refine ite_congr rfl (fun _ => ?_) (fun _ => rfl)
      refine (congrArg (fun t => cI t _) a3).trans ?_
      rw [cI_some]
  generalize plS h k j = p at hp e0 q
  obtain ⟨p0, p1, p2, p3, p4, p5, p6⟩ := hp
  unfold spC spS
  by_cases z0 : p 0 = 0
  · obtain ⟨H2, s1, s2, s3, s4, s5⟩ := e_fireAll i sf d (way := p 2) ec o hb (q.1 z0)
    have s1' := (e_fireAll i sf (d + 4) (way := p 2) ec o hb (q.1 z0)).choose_spec.1
    rw [if_pos z0, if_pos z0]
    refine ⟨H2, (e0 _).mpr ?_, s3, s4, s5⟩
    rw [if_pos z0, s1', cI_some, s2, cI_some]
  · rw [if_neg z0, if_neg z0]
    by_cases z1 : p 0 = 1
    · rw [if_pos z1]
      refine ⟨rs H 91 (hrC (h 2 3) c), (e0 _).mpr ?_, fun a _ _ n3 _ => rs_n n3, rs_s _ _ _, rs_n (by omega)⟩
      rw [if_neg z0, if_pos z1, d4, e_passHour _ _ _ l3 l4 (fun j hj => by rw [ec]; have := oa j hj; omega) (by rw [ec]; exact (oa 4 (by omega)).1), cV_some, ec]
    · rw [if_neg z1]
      by_cases z2 : p 0 = 2
      · rw [if_pos z2]
        refine ⟨rs H 91 (su (su c 1 (p 1)) 2 (p 2)), (e0 _).mpr ?_, fun a _ _ n3 _ => rs_n n3, rs_s _ _ _, rs_n (by omega)⟩
        rw [if_neg z0, if_neg z1, if_pos z2, up_is_rs H, up_rs, ec]
      · rw [if_neg z2]
        obtain ⟨q1, q2⟩ := q.2.2 (by omega)
        refine ⟨rs H 91 (su c (29 + p 1).toNat (iOr (c (29 + p 1).toNat) (iShl 1 (p 2)))), (e0 _).mpr ?_, fun a _ _ n3 _ => rs_n n3, rs_s _ _ _, rs_n (by omega)⟩
        rw [if_neg z0, if_neg z1, if_neg z2, wI_ok (x := 29 + p 1) (by omega) (by omega), if_pos (by omega), if_pos (by omega), up_is_rs H, ec]
theorem m_canStep {Ws : Nat → WF} {h H : MH} (i : InvF Ws h) (sf : SF h H) (d : Nat) {b : Int} {c v : Nat → Int} (ev : H 110 = v) (r : stR c v) (o : stOK (h 2 3) (h 2 4) b c) (hf : 0 < h 2 3) {row : Int} {p : Nat → Int} (hr0 : 0 ≤ row) (hr1 : row ≤ 316) (ep : ∀ w : Nat, w < 4 → H 108 (row.toNat + w) = p w) (hp : plOK p) : Run (d + 3) 257 0 [vR 97, vR 110, .inl row, vU, vU] [] H = some (some (.inl (bi (stP (h 2 3) (h 2 4) c p))), H) := by
  obtain ⟨l1, l2, l3, l4, l5, l6, l7⟩ := lgL i.1
  obtain ⟨d1, d2, d3, d4, d5, d6, d7, d8, d9⟩ := sf.dat
  have e0 := ep 0 (by omega)
  have e1 := ep 1 (by omega)
  have e2 := ep 2 (by omega)
  have e3 := ep 3 (by omega)
  rw [Nat.add_zero] at e0
  obtain ⟨-, -, s1, s2, s3, s4, s5, s6⟩ := id r
  have o4 := o.1.2.2.2.2.1
  have u1 : (wI (row + 1)).toNat = row.toNat + 1 := by rw [wI_ok (by omega) (by omega)]; omega
  have u2 : (wI (row + 2)).toNat = row.toNat + 2 := by rw [wI_ok (by omega) (by omega)]; omega
  have u3 : (wI (row + 3)).toNat = row.toNat + 3 := by rw [wI_ok (by omega) (by omega)]; omega
  have w1 : 0 ≤ wI (row + 1) ∧ wI (row + 1) < 320 := by rw [wI_ok (by omega) (by omega)]; omega
  have w2 : 0 ≤ wI (row + 2) ∧ wI (row + 2) < 320 := by rw [wI_ok (by omega) (by omega)]; omega
  have w3 : 0 ≤ wI (row + 3) ∧ wI (row + 3) < 320 := by rw [wI_ok (by omega) (by omega)]; omega
  rw [q257_0_1, if_pos w1, if_pos w2, if_pos (by omega), u1, u2, u3, e0, e1, e2, e3]
  obtain ⟨p0, p1, p2, p3, p4, p5, p6⟩ := hp
  have lat : ∀ k : Int, 0 ≤ k → k < 5 → v (16 + 3 * k + 2).toNat = c (16 + k).toNat := fun k a b => st_late r k a b
  by_cases z0 : p 0 = 0
  · rw [if_pos z0, if_pos w3, m_canShoot _ _ _ _ _ (by rw [d8, l2]; exact l6), cI_some, d8, l2, ev, s1, if_pos (bi_01 _)]
    congr 4
    apply bi_congr
    constructor
    · rintro ⟨⟨y1, y2⟩, y3, y4, y5⟩
      rw [lat _ y1.1 (by omega)] at y2
      exact Or.inl ⟨z0, ⟨y1, y2⟩, y4, y5⟩
    · rintro (z | z | z | z)
      · obtain ⟨-, ⟨y1, y2⟩, y4, y5⟩ := z
        rw [← lat _ y1.1 (by omega)] at y2
        exact ⟨⟨y1, y2⟩, by omega, y4, y5⟩
      · exact absurd z0 (by omega)
      · exact absurd z0 (by omega)
      · exact absurd z0 (by omega)
  · rw [if_neg z0]
    by_cases z1 : p 0 = 1
    · rw [if_pos z1, m_mayPass _ _ _ _ (by rw [ev, s5]; exact o4.1) (by rw [ev, s5]; exact o4.2) (by omega), cI_some, ev, s5, d7, l1, if_pos (bi_01 _)]
      congr 4
      apply bi_congr
      constructor
      · rintro ⟨y1, y2, y3⟩; exact Or.inr (Or.inl ⟨z1, by omega, y3⟩)
      · rintro (z | z | z | z)
        · exact absurd z.1 z0
        · exact ⟨hf, by omega, z.2.2⟩
        · omega
        · omega
    · rw [if_neg z1]
      by_cases z2 : p 0 = 2
      · rw [if_pos z2, m_canBlow, cI_some, ev, s2, s3, d7, l1, if_pos (bi_01 _)]
        congr 4
        apply bi_congr
        constructor
        · rintro ⟨y1, y2, y3, y4⟩; exact Or.inr (Or.inr (Or.inl ⟨z2, y4⟩))
        · rintro (z | z | z | z)
          · exact absurd z.1 z0
          · omega
          · exact ⟨hf, by omega, by omega, z.2⟩
          · omega
      · rw [if_neg z2, m_canHear _ _ _ _ (by rw [d7, l1]; exact l4), cI_some, d7, l1, ev, if_pos (bi_01 _)]
        congr 4
        apply bi_congr
        constructor
        · rintro ⟨y1, y2, y3⟩
          rw [st_news r _ y1.1 (by omega)] at y3
          exact Or.inr (Or.inr (Or.inr ⟨by omega, y1, y2, y3⟩))
        · rintro (z | z | z | z)
          · exact absurd z.1 z0
          · exact absurd z.1 z1
          · exact absurd z.1 z2
          · obtain ⟨-, y1, y2, y3⟩ := z
            rw [← st_news r _ y1.1 (by omega)] at y3
            exact ⟨y1, y2, y3⟩
theorem m_steps {Ws : Nat → WF} {h H : MH} (i : InvF Ws h) (sf : SF h H) (d : Nat) {b : Int} {c v : Nat → Int} (ev : H 110 = v) (r : stR c v) (o : stOK (h 2 3) (h 2 4) b c) (hb : b ≤ 900000) {row : Int} {p : Nat → Int} (hr0 : 0 ≤ row) (hr1 : row ≤ 316) (ep : ∀ w : Nat, w < 4 → H 108 (row.toNat + w) = p w) (hp : plOK p) (q : acP (h 2 3) (h 2 4) c p) :
    ∃ H2, Run (d + 37) 259 0 [vR 97, vR 110, .inl row, vU, vU, vU] [] H = some (none, H2) ∧ (∀ a j, ¬ (a = 97 ∧ prF_ j) → a ≠ 101 → a ≠ 110 → H2 a j = H a j) ∧ H2 110 = spV Ws h c v p := by
  obtain ⟨l1, l2, l3, l4, l5, l6, l7⟩ := lgL i.1
  obtain ⟨d1, d2, d3, d4, d5, d6, d7, d8, d9⟩ := sf.dat
  have e0 := ep 0 (by omega)
  have e1 := ep 1 (by omega)
  have e2 := ep 2 (by omega)
  have e3 := ep 3 (by omega)
  rw [Nat.add_zero] at e0
  have va := sr_all r o (by omega) (by omega)
  have u1 : (wI (row + 1)).toNat = row.toNat + 1 := by rw [wI_ok (by omega) (by omega)]; omega
  have u2 : (wI (row + 2)).toNat = row.toNat + 2 := by rw [wI_ok (by omega) (by omega)]; omega
  have u3 : (wI (row + 3)).toNat = row.toNat + 3 := by rw [wI_ok (by omega) (by omega)]; omega
  have w1 : 0 ≤ wI (row + 1) ∧ wI (row + 1) < 320 := by rw [wI_ok (by omega) (by omega)]; omega
  have w2 : 0 ≤ wI (row + 2) ∧ wI (row + 2) < 320 := by rw [wI_ok (by omega) (by omega)]; omega
  have w3 : 0 ≤ wI (row + 3) ∧ wI (row + 3) < 320 := by rw [wI_ok (by omega) (by omega)]; omega
  rw [q259_0_1, if_pos w1, if_pos w2, if_pos (by omega), u1, u2, u3, e0, e1, e2, e3]
  obtain ⟨p0, p1, p2, p3, p4, p5, p6⟩ := hp
  unfold spV
  by_cases z0 : p 0 = 0
  · obtain ⟨H2, s1, s2, s3, s4⟩ := m_fireAll i sf d (way := p 2) ev r o hb (q.1 z0)
    have s1' := (m_fireAll i sf (d + 35) (way := p 2) ev r o hb (q.1 z0)).choose_spec.1
    rw [if_pos z0, if_pos z0]
    refine ⟨H2, ?_, s3, s4⟩
    rw [if_pos w3, s1', cI_some, s2, cI_some]
  · rw [if_neg z0, if_neg z0]
    by_cases z1 : p 0 = 1
    · rw [if_pos z1, if_pos z1]
      refine ⟨rs H 110 (hrM (h 2 3) (h 2 4) v), ?_, fun a j _ _ n3 => by rw [rs_n n3], rs_s _ _ _⟩
      rw [m_goHour _ _ (h 2 3) (h 2 4) (by rw [d7, l1]) (by rw [d8, l2]) l3 l4 l5 l6 (fun j hj => by rw [ev]; have := va j hj; omega) (by rw [ev]; exact (va 35 (by omega)).1), cV_some, ev]
    · rw [if_neg z1, if_neg z1]
      by_cases z2 : p 0 = 2
      · rw [if_pos z2, if_pos z2]
        refine ⟨rs H 110 (su (su v 32 (p 1)) 33 (p 2)), ?_, fun a j _ _ n3 => by rw [rs_n n3], rs_s _ _ _⟩
        first | rw [q243_0, cV_some, up_is_rs H, up_rs, ev] | rw [q243_0_1, cV_some, up_is_rs H, up_rs, ev]
      · rw [if_neg z2, if_neg z2]
        obtain ⟨q1, q2⟩ := q.2.2 (by omega)
        refine ⟨rs H 110 (su v (8 + p 1).toNat (iOr (v (8 + p 1).toNat) (iShl 1 (p 2)))), ?_, fun a j _ _ n3 => by rw [rs_n n3], rs_s _ _ _⟩
        rw [wI_ok (x := 8 + p 1) (by omega) (by omega), if_pos (by omega), if_pos (by omega), up_is_rs H, ev]
theorem e_canStepT {Ws : Nat → WF} {h H : MH} (i : InvF Ws h) (sf : SF h H) (d : Nat) {b : Int} {c : Nat → Int} (ec : H 93 = c) (o : stOK (h 2 3) (h 2 4) b c) {k j : Nat} (hk : k < 4) (hj : j < 16) (hp : plOK (plS h k j)) : Run (d + 2) 118 0 [vR 0, vR 13, .inl (k : Int), .inl (j : Int), vU, vU] [] H = some (some (.inl (bi (stP (h 2 3) (h 2 4) c (plS h k j)))), H) := by
  obtain ⟨l1, l2, l3, l4, l5, l6, l7⟩ := lgL i.1
  obtain ⟨d1, d2, d3, d4, d5, d6, d7, d8, d9⟩ := sf.dat
  have a0 := e_part (d + 1) sf hk hj (w := 0) (by omega)
  have a1 := e_part (d + 1) sf hk hj (w := 1) (by omega)
  have a2 := e_part (d + 1) sf hk hj (w := 2) (by omega)
  have a3 := e_part (d + 1) sf hk hj (w := 3) (by omega)
  have o4 := o.1.2.2.2.2.1
  rw [q118_0]
  refine (congrArg (fun t => cI t _) a1).trans ?_
  rw [cI_some]
  refine (congrArg (fun t => cI t _) a2).trans ?_
  rw [cI_some]
  refine (congrArg (fun t => cI t _) a0).trans ?_
  rw [cI_some]
  generalize plS h k j = p at hp a0 a1 a2 a3
  obtain ⟨p0, p1, p2, p3, p4, p5, p6⟩ := hp
  by_cases z0 : p 0 = 0
  · rw [if_pos z0]
    refine (congrArg (fun t => cI t _) a3).trans ?_
    rw [cI_some, e_canFireT _ _ _ _ (by rw [d5]; exact l6), cI_some, d5, ec, if_pos (bi_01 _)]
    congr 4
    apply bi_congr
    constructor
    · intro z; exact Or.inl ⟨z0, z⟩
    · rintro (z | z | z | z)
      · exact z.2
      · exact absurd z0 (by omega)
      · exact absurd z0 (by omega)
      · exact absurd z0 (by omega)
  · rw [if_neg z0]
    by_cases z1 : p 0 = 1
    · rw [if_pos z1, ec]
      by_cases y1 : p 1 ≤ 0
      · rw [if_pos y1, bi_f (by
          rintro (z | z | z | z)
          · exact z0 z.1
          · omega
          · omega
          · omega)]
      · rw [if_neg y1, wI_ok (by omega) (by omega)]
        by_cases y2 : 9999 < c 4 + p 1
        · rw [if_pos y2, bi_f (by
            rintro (z | z | z | z)
            · exact z0 z.1
            · omega
            · omega
            · omega)]
        · rw [if_neg y2, bi_t (Or.inr (Or.inl ⟨z1, by omega, by omega⟩))]
    · rw [if_neg z1]
      by_cases z2 : p 0 = 2
      · rw [if_pos z2, e_blowsT, cI_some, ec]
        by_cases y : c 1 = p 1 ∧ c 2 = p 2
        · rw [bi_t y, if_pos (by omega), bi_f (by
            rintro (z | z | z | z)
            · exact z0 z.1
            · omega
            · exact z.2 y
            · omega)]
        · rw [bi_f y, if_neg (by omega), bi_t (Or.inr (Or.inr (Or.inl ⟨z2, y⟩)))]
      · rw [if_neg z2, e_canHearT _ _ _ _ (by rw [d4]; exact l4), cI_some, d4, ec, if_pos (bi_01 _)]
        congr 4
        apply bi_congr
        constructor
        · intro z; exact Or.inr (Or.inr (Or.inr ⟨by omega, z⟩))
        · rintro (z | z | z | z)
          · exact absurd z.1 z0
          · exact absurd z.1 z1
          · exact absurd z.1 z2
          · exact z.2
theorem e_stepOnceT {Ws : Nat → WF} {h H : MH} (i : InvF Ws h) (sf : SF h H) (d : Nat) {b : Int} {c : Nat → Int} (ec : H 93 = c) (o : stOK (h 2 3) (h 2 4) b c) (hb : b ≤ 900000) {k j : Nat} (hk : k < 4) (hj : j < 16) (hp : plOK (plS h k j)) (q : acP (h 2 3) (h 2 4) c (plS h k j)) :
    ∃ H2, Run (d + 6) 119 0 [vR 0, vR 13, .inl (k : Int), .inl (j : Int), vU, vU] [] H = some (none, H2) ∧ (∀ a, a ≠ 23 → a ≠ 30 → a ≠ 93 → a ≠ 94 → H2 a = H a) ∧ H2 93 = spC Ws h c (plS h k j) ∧ H2 94 = spS Ws h c (H 94) (plS h k j) := by
  obtain ⟨l1, l2, l3, l4, l5, l6, l7⟩ := lgL i.1
  obtain ⟨d1, d2, d3, d4, d5, d6, d7, d8, d9⟩ := sf.dat
  have a0 := e_part (d + 5) sf hk hj (w := 0) (by omega)
  have a1 := e_part (d + 5) sf hk hj (w := 1) (by omega)
  have a2 := e_part (d + 5) sf hk hj (w := 2) (by omega)
  have a3 := e_part (d + 5) sf hk hj (w := 3) (by omega)
  have oa := so_all o (by omega) (by omega)
  have e0 : ∀ t, Run (d + 6) 119 0 [vR 0, vR 13, .inl (k : Int), .inl (j : Int), vU, vU] [] H = t ↔ (if plS h k j 0 = 0 then (cI (Run (d + 5) 105 0 [vR 0, vR 13, .inl (plS h k j 1), vU, vU, vU] [] H) fun a11_ h10_ => cI (Run (d + 5) 78 0 [vR 0, vR 13, .inl (plS h k j 1), .inl (plS h k j 3), .inl (plS h k j 2), .inl a11_, vU, vU] [] h10_) fun a13_ h12_ => some (none, h12_)) else if plS h k j 0 = 1 then (cV (Run (d + 5) 100 0 [vR 13, .inl (H 2 3), vU] [] H) fun h15_ => some (none, h15_)) else if plS h k j 0 = 2 then some (none, up (up H 93 1 (plS h k j 1)) 93 2 (plS h k j 2)) else if 0 ≤ wI (29 + plS h k j 1) ∧ wI (29 + plS h k j 1) < 37 then (if 0 ≤ wI (29 + plS h k j 1) ∧ wI (29 + plS h k j 1) < 37 then some (none, up H 93 (wI (29 + plS h k j 1)).toNat (iOr (H 93 (wI (29 + plS h k j 1)).toNat) (iShl 1 (plS h k j 2)))) else none) else none) = t := by
    intro t
    rw [q119_0]
    constructor
    · intro z
      rw [← z]
      symm
      refine (congrArg (fun t => cI t _) a1).trans ?_
      rw [cI_some]
      refine (congrArg (fun t => cI t _) a2).trans ?_
      rw [cI_some]
      refine (congrArg (fun t => cI t _) a0).trans ?_
      rw [cI_some]
      refine ite_congr rfl (fun _ => ?_) (fun _ => rfl)
      refine (congrArg (fun t => cI t _) a3).trans ?_
      rw [cI_some]
    · intro z
      rw [← z]
      refine (congrArg (fun t => cI t _) a1).trans ?_
      rw [cI_some]
      refine (congrArg (fun t => cI t _) a2).trans ?_
      rw [cI_some]
      refine (congrArg (fun t => cI t _) a0).trans ?_
      rw [cI_some]
      refine ite_congr rfl (fun _ => ?_) (fun _ => rfl)
      refine (congrArg (fun t => cI t _) a3).trans ?_
      rw [cI_some]
  generalize plS h k j = p at hp e0 q
  obtain ⟨p0, p1, p2, p3, p4, p5, p6⟩ := hp
  unfold spC spS
  by_cases z0 : p 0 = 0
  · obtain ⟨H2, s1, s2, s3, s4, s5⟩ := e_fireAllT i sf d (way := p 2) ec o hb (q.1 z0)
    have s1' := (e_fireAllT i sf (d + 4) (way := p 2) ec o hb (q.1 z0)).choose_spec.1
    rw [if_pos z0, if_pos z0]
    refine ⟨H2, (e0 _).mpr ?_, s3, s4, s5⟩
    rw [if_pos z0, s1', cI_some, s2, cI_some]
  · rw [if_neg z0, if_neg z0]
    by_cases z1 : p 0 = 1
    · rw [if_pos z1]
      refine ⟨rs H 93 (hrC (h 2 3) c), (e0 _).mpr ?_, fun a _ _ n3 _ => rs_n n3, rs_s _ _ _, rs_n (by omega)⟩
      rw [if_neg z0, if_pos z1, d4, e_passHourT _ _ _ l3 l4 (fun j hj => by rw [ec]; have := oa j hj; omega) (by rw [ec]; exact (oa 4 (by omega)).1), cV_some, ec]
    · rw [if_neg z1]
      by_cases z2 : p 0 = 2
      · rw [if_pos z2]
        refine ⟨rs H 93 (su (su c 1 (p 1)) 2 (p 2)), (e0 _).mpr ?_, fun a _ _ n3 _ => rs_n n3, rs_s _ _ _, rs_n (by omega)⟩
        rw [if_neg z0, if_neg z1, if_pos z2, up_is_rs H, up_rs, ec]
      · rw [if_neg z2]
        obtain ⟨q1, q2⟩ := q.2.2 (by omega)
        refine ⟨rs H 93 (su c (29 + p 1).toNat (iOr (c (29 + p 1).toNat) (iShl 1 (p 2)))), (e0 _).mpr ?_, fun a _ _ n3 _ => rs_n n3, rs_s _ _ _, rs_n (by omega)⟩
        rw [if_neg z0, if_neg z1, if_neg z2, wI_ok (x := 29 + p 1) (by omega) (by omega), if_pos (by omega), if_pos (by omega), up_is_rs H, ec]
theorem m_canStepT {Ws : Nat → WF} {h H : MH} (i : InvF Ws h) (sf : SF h H) (d : Nat) {b : Int} {c v : Nat → Int} (ev : H 111 = v) (r : stR c v) (o : stOK (h 2 3) (h 2 4) b c) (hf : 0 < h 2 3) {row : Int} {p : Nat → Int} (hr0 : 0 ≤ row) (hr1 : row ≤ 316) (ep : ∀ w : Nat, w < 4 → H 108 (row.toNat + w) = p w) (hp : plOK p) : Run (d + 3) 257 0 [vR 97, vR 111, .inl row, vU, vU] [] H = some (some (.inl (bi (stP (h 2 3) (h 2 4) c p))), H) := by
  obtain ⟨l1, l2, l3, l4, l5, l6, l7⟩ := lgL i.1
  obtain ⟨d1, d2, d3, d4, d5, d6, d7, d8, d9⟩ := sf.dat
  have e0 := ep 0 (by omega)
  have e1 := ep 1 (by omega)
  have e2 := ep 2 (by omega)
  have e3 := ep 3 (by omega)
  rw [Nat.add_zero] at e0
  obtain ⟨-, -, s1, s2, s3, s4, s5, s6⟩ := id r
  have o4 := o.1.2.2.2.2.1
  have u1 : (wI (row + 1)).toNat = row.toNat + 1 := by rw [wI_ok (by omega) (by omega)]; omega
  have u2 : (wI (row + 2)).toNat = row.toNat + 2 := by rw [wI_ok (by omega) (by omega)]; omega
  have u3 : (wI (row + 3)).toNat = row.toNat + 3 := by rw [wI_ok (by omega) (by omega)]; omega
  have w1 : 0 ≤ wI (row + 1) ∧ wI (row + 1) < 320 := by rw [wI_ok (by omega) (by omega)]; omega
  have w2 : 0 ≤ wI (row + 2) ∧ wI (row + 2) < 320 := by rw [wI_ok (by omega) (by omega)]; omega
  have w3 : 0 ≤ wI (row + 3) ∧ wI (row + 3) < 320 := by rw [wI_ok (by omega) (by omega)]; omega
  rw [q257_0, if_pos w1, if_pos w2, if_pos (by omega), u1, u2, u3, e0, e1, e2, e3]
  obtain ⟨p0, p1, p2, p3, p4, p5, p6⟩ := hp
  have lat : ∀ k : Int, 0 ≤ k → k < 5 → v (16 + 3 * k + 2).toNat = c (16 + k).toNat := fun k a b => st_late r k a b
  by_cases z0 : p 0 = 0
  · rw [if_pos z0, if_pos w3, m_canShootT _ _ _ _ _ (by rw [d8, l2]; exact l6), cI_some, d8, l2, ev, s1, if_pos (bi_01 _)]
    congr 4
    apply bi_congr
    constructor
    · rintro ⟨⟨y1, y2⟩, y3, y4, y5⟩
      rw [lat _ y1.1 (by omega)] at y2
      exact Or.inl ⟨z0, ⟨y1, y2⟩, y4, y5⟩
    · rintro (z | z | z | z)
      · obtain ⟨-, ⟨y1, y2⟩, y4, y5⟩ := z
        rw [← lat _ y1.1 (by omega)] at y2
        exact ⟨⟨y1, y2⟩, by omega, y4, y5⟩
      · exact absurd z0 (by omega)
      · exact absurd z0 (by omega)
      · exact absurd z0 (by omega)
  · rw [if_neg z0]
    by_cases z1 : p 0 = 1
    · rw [if_pos z1, m_mayPassT _ _ _ _ (by rw [ev, s5]; exact o4.1) (by rw [ev, s5]; exact o4.2) (by omega), cI_some, ev, s5, d7, l1, if_pos (bi_01 _)]
      congr 4
      apply bi_congr
      constructor
      · rintro ⟨y1, y2, y3⟩; exact Or.inr (Or.inl ⟨z1, by omega, y3⟩)
      · rintro (z | z | z | z)
        · exact absurd z.1 z0
        · exact ⟨hf, by omega, z.2.2⟩
        · omega
        · omega
    · rw [if_neg z1]
      by_cases z2 : p 0 = 2
      · rw [if_pos z2, m_canBlowT, cI_some, ev, s2, s3, d7, l1, if_pos (bi_01 _)]
        congr 4
        apply bi_congr
        constructor
        · rintro ⟨y1, y2, y3, y4⟩; exact Or.inr (Or.inr (Or.inl ⟨z2, y4⟩))
        · rintro (z | z | z | z)
          · exact absurd z.1 z0
          · omega
          · exact ⟨hf, by omega, by omega, z.2⟩
          · omega
      · rw [if_neg z2, m_canHearT _ _ _ _ (by rw [d7, l1]; exact l4), cI_some, d7, l1, ev, if_pos (bi_01 _)]
        congr 4
        apply bi_congr
        constructor
        · rintro ⟨y1, y2, y3⟩
          rw [st_news r _ y1.1 (by omega)] at y3
          exact Or.inr (Or.inr (Or.inr ⟨by omega, y1, y2, y3⟩))
        · rintro (z | z | z | z)
          · exact absurd z.1 z0
          · exact absurd z.1 z1
          · exact absurd z.1 z2
          · obtain ⟨-, y1, y2, y3⟩ := z
            rw [← st_news r _ y1.1 (by omega)] at y3
            exact ⟨y1, y2, y3⟩
theorem m_stepsT {Ws : Nat → WF} {h H : MH} (i : InvF Ws h) (sf : SF h H) (d : Nat) {b : Int} {c v : Nat → Int} (ev : H 111 = v) (r : stR c v) (o : stOK (h 2 3) (h 2 4) b c) (hb : b ≤ 900000) {row : Int} {p : Nat → Int} (hr0 : 0 ≤ row) (hr1 : row ≤ 316) (ep : ∀ w : Nat, w < 4 → H 108 (row.toNat + w) = p w) (hp : plOK p) (q : acP (h 2 3) (h 2 4) c p) :
    ∃ H2, Run (d + 37) 259 0 [vR 97, vR 111, .inl row, vU, vU, vU] [] H = some (none, H2) ∧ (∀ a j, ¬ (a = 97 ∧ prF_ j) → a ≠ 101 → a ≠ 111 → H2 a j = H a j) ∧ H2 111 = spV Ws h c v p := by
  obtain ⟨l1, l2, l3, l4, l5, l6, l7⟩ := lgL i.1
  obtain ⟨d1, d2, d3, d4, d5, d6, d7, d8, d9⟩ := sf.dat
  have e0 := ep 0 (by omega)
  have e1 := ep 1 (by omega)
  have e2 := ep 2 (by omega)
  have e3 := ep 3 (by omega)
  rw [Nat.add_zero] at e0
  have va := sr_all r o (by omega) (by omega)
  have u1 : (wI (row + 1)).toNat = row.toNat + 1 := by rw [wI_ok (by omega) (by omega)]; omega
  have u2 : (wI (row + 2)).toNat = row.toNat + 2 := by rw [wI_ok (by omega) (by omega)]; omega
  have u3 : (wI (row + 3)).toNat = row.toNat + 3 := by rw [wI_ok (by omega) (by omega)]; omega
  have w1 : 0 ≤ wI (row + 1) ∧ wI (row + 1) < 320 := by rw [wI_ok (by omega) (by omega)]; omega
  have w2 : 0 ≤ wI (row + 2) ∧ wI (row + 2) < 320 := by rw [wI_ok (by omega) (by omega)]; omega
  have w3 : 0 ≤ wI (row + 3) ∧ wI (row + 3) < 320 := by rw [wI_ok (by omega) (by omega)]; omega
  rw [q259_0, if_pos w1, if_pos w2, if_pos (by omega), u1, u2, u3, e0, e1, e2, e3]
  obtain ⟨p0, p1, p2, p3, p4, p5, p6⟩ := hp
  unfold spV
  by_cases z0 : p 0 = 0
  · obtain ⟨H2, s1, s2, s3, s4⟩ := m_fireAllT i sf d (way := p 2) ev r o hb (q.1 z0)
    have s1' := (m_fireAllT i sf (d + 35) (way := p 2) ev r o hb (q.1 z0)).choose_spec.1
    rw [if_pos z0, if_pos z0]
    refine ⟨H2, ?_, s3, s4⟩
    rw [if_pos w3, s1', cI_some, s2, cI_some]
  · rw [if_neg z0, if_neg z0]
    by_cases z1 : p 0 = 1
    · rw [if_pos z1, if_pos z1]
      refine ⟨rs H 111 (hrM (h 2 3) (h 2 4) v), ?_, fun a j _ _ n3 => by rw [rs_n n3], rs_s _ _ _⟩
      rw [m_goHourT _ _ (h 2 3) (h 2 4) (by rw [d7, l1]) (by rw [d8, l2]) l3 l4 l5 l6 (fun j hj => by rw [ev]; have := va j hj; omega) (by rw [ev]; exact (va 35 (by omega)).1), cV_some, ev]
    · rw [if_neg z1, if_neg z1]
      by_cases z2 : p 0 = 2
      · rw [if_pos z2, if_pos z2]
        refine ⟨rs H 111 (su (su v 32 (p 1)) 33 (p 2)), ?_, fun a j _ _ n3 => by rw [rs_n n3], rs_s _ _ _⟩
        first | rw [q243_0, cV_some, up_is_rs H, up_rs, ev] | rw [q243_0_1, cV_some, up_is_rs H, up_rs, ev]
      · rw [if_neg z2, if_neg z2]
        obtain ⟨q1, q2⟩ := q.2.2 (by omega)
        refine ⟨rs H 111 (su v (8 + p 1).toNat (iOr (v (8 + p 1).toNat) (iShl 1 (p 2)))), ?_, fun a j _ _ n3 => by rw [rs_n n3], rs_s _ _ _⟩
        rw [wI_ok (x := 8 + p 1) (by omega) (by omega), if_pos (by omega), if_pos (by omega), up_is_rs H, ev]
