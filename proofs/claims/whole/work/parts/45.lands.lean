/-! lands, aim, gusts, passing -/
theorem e_land {b : Int} {h : MH} (i : Inv0 b h) (d : Nat) (pl : Int) (hp : -1000 ≤ pl ∧ pl ≤ 1000) : Run (d + 1) 87 0 [vR 2, .inl pl, vU, vU, vU] [] h = some (some (.inl (ldF (h 17) (h 2 3) pl)), h) := by
  obtain ⟨l1, l2, l3, l4, l5, l6, l7⟩ := lg_n i
  exact e_fortNear d pl h l3 l4 hp (fun f hf => fo_n i f hf)
theorem m_land {b : Int} {h : MH} (i : Inv0 b h) (hf : 0 < h 2 3) (d : Nat) (pl : Int) (hp : -1000 ≤ pl ∧ pl ≤ 1000) : Run (d + 2) 235 0 [vR 97, .inl pl, vU] [] h = some (some (.inl (ldF (h 17) (h 2 3) pl)), h) := by
  obtain ⟨l1, l2, l3, l4, l5, l6, l7⟩ := lg_n i
  exact m_landsAt d pl _ h (h 17) l1 (by omega) l4 hp (fun f' hf' => by
      have := lg_fort i (3 * f') (by omega) (by omega)
      rw [show (3 * (f' : Int)).toNat = 3 * f' by omega] at this
      exact this) (fun f' hf' => fo_n i f' hf') (ap_n i hf)
theorem Eqv.dat {h g : MH} (e : Eqv h g) : g 6 2 = h 6 2 ∧ g 17 = h 17 ∧ g 18 = h 18 ∧ g 2 3 = h 2 3 ∧ g 2 4 = h 2 4 ∧ g 91 = h 91 ∧ g 110 = h 110 :=
  ⟨e _ _ rfl, funext fun j => e _ _ rfl, funext fun j => e _ _ rfl, e _ _ rfl, e _ _ rfl, funext fun j => e _ _ rfl, funext fun j => e _ _ rfl⟩
theorem PrX_e {b : Int} {Ws : Nat → WF} {kc km : Nat} {ac am : List MV} {h h1 h2 : MH} {v : Int} (i : InvX b Ws h1) (q1 : Run 40 kc 0 ac [] h = some (some (.inl v), h1)) (q2 : Run 40 km 0 am [] h1 = some (some (.inl v), h2)) (e : Eqv h1 h2) : PrX b b Ws kc km ac am h := ⟨v, h1, h2, q1, q2, e.X i⟩
/-- a state's weather -/
theorem wth {b : Int} {h : MH} (i : Inv0 b h) : ((0 ≤ h 91 1 ∧ h 91 1 ≤ 9) ∧ (h 91 2 = 0 ∨ h 91 2 = 1) ∧ (0 ≤ h 91 3 ∧ h 91 3 ≤ 9)) ∧ h 110 32 = h 91 1 ∧ h 110 33 = h 91 2 ∧ h 110 34 = h 91 3 := by
  obtain ⟨-, -, s1, s2, s3, s4, s5, s6⟩ := nowR i
  obtain ⟨-, o1, o2, o3, -⟩ := (nowOK i).1
  exact ⟨⟨o1, o2, o3⟩, s2, s3, s4⟩
theorem c_lands {b : Int} {Ws : Nat → WF} {h : MH} (i : InvX b Ws h) (x y z w v : Int) : PrX b b Ws 121 261 [vR 0, .inl x, .inl y, .inl z, .inl w, .inl v, vU] [vR 97, .inl x, .inl y, .inl z, .inl w, .inl v, vU] h := by
  obtain ⟨l1, l2, l3, l4, l5, l6, l7⟩ := lg_n i.1.1
  obtain ⟨⟨o1, o2, o3⟩, s2, s3, s4⟩ := wth i.1.1
  by_cases q : ((0 ≤ x ∧ x < h 2 4) ∧ (0 ≤ y ∧ y < h 2 3) ∧ (1 ≤ z ∧ z ≤ 20) ∧ (w = 0 ∨ w = 1)) ∧ (0 ≤ v ∧ v ≤ 1)
  · obtain ⟨q0, qv⟩ := q
    obtain ⟨qx, qy, qz, qw⟩ := id q0
    have pb := plF_b i.1 (c := x) (f := y) (p := z) (way := w) (wd := h 91 1) (wy := h 91 2) (dm := h 91 3) qx.1 qx.2 qy.1 qy.2
    obtain ⟨h1, r1, r2⟩ := e_comesTo i.1 35 (c := x) (f := y) (p := z) (way := w) qx.1 qx.2 qy.1 qy.2 qz.1 qz.2 o1.1 (by omega) o3.1 o3.2
    have e1 : Eqv h h1 := Eqv_ll r2
    have e2 : Eqv h (up h1 97 0 0) := e1.tr (Eqv.up rfl)
    obtain ⟨d1, d2, d3, d4, d5, d6, d7⟩ := e2.dat
    obtain ⟨h2, r3, r4⟩ := m_comesTo (e2.B i.1) 4 (c := x) (f := y) (p := z) (way := w) qx.1 (by omega) qy.1 (by omega) qz.1 qz.2 (by rw [d7, s2]; exact o1.1) (by rw [d7, s2]; omega) (by rw [d7, s4]; exact o3.1) (by rw [d7, s4]; exact o3.2)
    rw [d1, d2, d3, d7, s2, s3, s4] at r3
    have e3 : Eqv h h2 := e2.tr (Eqv_pr r4)
    have c1 : Run 40 121 0 [vR 0, .inl x, .inl y, .inl z, .inl w, .inl v, vU] [] h = some (some (.inl (if v = 1 then plF Ws (h 6 2) (h 17) (h 18) x y z w (h 91 1) (h 91 2) (h 91 3) else ldF (h 17) (h 2 3) (plF Ws (h 6 2) (h 17) (h 18) x y z w (h 91 1) (h 91 2) (h 91 3)))), h1) := by
      rw [q121_0, e_isShot, cI_some, bi_t q0, if_neg (by omega), if_neg (by omega), if_pos qv.2, r1, cI_some]
      by_cases z1 : v = 1
      · rw [if_neg (fun y => y z1), if_pos z1]
      · rw [if_pos z1, if_neg z1, e_land (e1.inv i.1.1) _ _ (by omega), cI_some]
        obtain ⟨t1, t2, t3, t4, t5, t6, t7⟩ := e1.dat
        rw [t2, t4]
    have c2 : Run 40 261 0 [vR 97, .inl x, .inl y, .inl z, .inl w, .inl v, vU] [] h1 = some (some (.inl (if v = 1 then plF Ws (h 6 2) (h 17) (h 18) x y z w (h 91 1) (h 91 2) (h 91 3) else ldF (h 17) (h 2 3) (plF Ws (h 6 2) (h 17) (h 18) x y z w (h 91 1) (h 91 2) (h 91 3)))), h2) := by
      obtain ⟨g1, g2, -⟩ := lg_n (e2.inv i.1.1)
      rw [q261_0, m_isShot, cI_some, g1, g2, d4, d5, bi_t q0, if_neg (by omega), m_isIn, cI_some, bi_t qv, if_pos (by omega), r3, cI_some]
      by_cases z1 : v = 1
      · rw [if_neg (fun y => y z1), if_pos z1]
      · obtain ⟨t1, t2, t3, t4, t5, t6, t7⟩ := e3.dat
        rw [if_pos z1, if_neg z1, m_land (e3.inv i.1.1) (by omega) _ _ (by omega), cI_some, t2, t4]
    exact ⟨_, h1, h2, c1, c2, e3.X i⟩
  · refine Pr_X i (Pr_no i.1.1 (v := -1000000) ?_ ?_)
    · rw [q121_0, e_isShot, cI_some]
      by_cases q1 : ((0 ≤ x ∧ x < h 2 4) ∧ (0 ≤ y ∧ y < h 2 3) ∧ (1 ≤ z ∧ z ≤ 20) ∧ (w = 0 ∨ w = 1))
      · rw [bi_t q1, if_neg (by omega)]
        by_cases q2 : v < 0
        · rw [if_pos q2]
        · rw [if_neg q2, if_neg (by omega)]
      · rw [bi_f q1, if_pos rfl]
    · rw [q261_0, m_isShot, cI_some, up_i (by omega), up_i (by omega), l1, l2]
      by_cases q1 : ((0 ≤ x ∧ x < h 2 4) ∧ (0 ≤ y ∧ y < h 2 3) ∧ (1 ≤ z ∧ z ≤ 20) ∧ (w = 0 ∨ w = 1))
      · rw [bi_t q1, if_neg (by omega), m_isIn, cI_some, bi_f (fun y => q ⟨q1, y⟩), if_neg (by omega)]
      · rw [bi_f q1, if_pos rfl]
theorem e_isPassage (d : Nat) (x y z : Int) (h : MH) : Run (d + 1) 124 0 [vR 0, .inl x, .inl y, .inl z] [] h = some (some (.inl (bi ((0 ≤ x ∧ x < h 2 4) ∧ (0 ≤ y ∧ y < h 2 3) ∧ (0 ≤ z ∧ z < h 2 3)))), h) := by
  rw [q124_0]
  simp only [e_hasCarrier, e_hasFort, cI_some, bi_0, bi_ne, bi_1, Classical.not_not]
  by_cases q1 : 0 ≤ x ∧ x < h 2 4 <;> by_cases q2 : 0 ≤ y ∧ y < h 2 3 <;> by_cases q3 : 0 ≤ z ∧ z < h 2 3 <;> simp [q1, q2, q3, bi]
theorem am0_1 (x : Int) (h : x = -1 ∨ 1 ≤ x) : (am0 x = 0 ↔ x = -1) ∧ (x ≠ -1 → am0 x = x) := by
  unfold am0
  by_cases q : x = -1
  · rw [if_pos q]; exact ⟨⟨fun _ => q, fun _ => rfl⟩, fun y => absurd q y⟩
  · rw [if_neg q]; exact ⟨by omega, fun _ => rfl⟩
theorem amH_b (Ws : Nat → WF) (h : MH) (c f to : Int) : amH Ws h c f to = -1 ∨ (1 ≤ amH Ws h c f to ∧ amH Ws h c f to ≤ 20) := am_b _ _ _ _ _ _ _ _ _ _ _
theorem c_aim {b : Int} {Ws : Nat → WF} {h : MH} (i : InvX b Ws h) (x y z : Int) : PrX b b Ws 123 263 [vR 0, .inl x, .inl y, .inl z] [vR 97, .inl x, .inl y, .inl z] h := by
  obtain ⟨l1, l2, l3, l4, l5, l6, l7⟩ := lg_n i.1.1
  by_cases q : (0 ≤ x ∧ x < h 2 4) ∧ (0 ≤ y ∧ y < h 2 3) ∧ (0 ≤ z ∧ z < h 2 3)
  · obtain ⟨qx, qy, qz⟩ := id q
    obtain ⟨h1, r1, r2, r3⟩ := e_leastPowder i 34 (c := x) (f := y) (to := z) qx.1 qx.2 qy.1 qy.2 qz.1 (by omega)
    have c1 : Run 40 123 0 [vR 0, .inl x, .inl y, .inl z] [] h = some (some (.inl (amH Ws h x y z)), h1) := by
      rw [q123_0, e_isPassage, cI_some, bi_t q, if_pos (by omega), r1, cI_some]
    have e2 : Eqv h1 (up h1 97 0 0) := Eqv.up rfl
    have i2 := e2.X r3
    obtain ⟨g1, g2, -⟩ := lg_n i2.1.1
    have t4 : up h1 97 0 0 2 3 = h 2 3 := by rw [up_a (by omega), r2 2 (by omega) (by omega) (by omega) (by omega)]
    have t5 : up h1 97 0 0 2 4 = h 2 4 := by rw [up_a (by omega), r2 2 (by omega) (by omega) (by omega) (by omega)]
    have ea : amH Ws (up h1 97 0 0) = amH Ws h := by rw [e2.am, r2.am]
    obtain ⟨h2, u1, u2, u3, u4⟩ := m_layAims i2.1 3 (c := x) qx.1 (by omega)
    by_cases z1 : y = z
    · subst z1
      have e0 : amH Ws h x y y = -1 := am_self _ _ _ _ _ _ _ _ _ _
      refine PrX_e r3 (h2 := up h1 97 0 0) c1 ?_ e2
      rw [q263_0, m_isCarrier, cI_some, g2, t5, bi_t qx, if_neg (by omega), m_isFort, cI_some, g1, t4, bi_t qy, if_neg (by omega), m_isFort, cI_some, g1, t4, bi_t qy, if_neg (by omega), if_neg (fun y => y rfl), e0]
    · have hu := u3 y.toNat z.toNat (by omega) (by omega)
      rw [show ((y.toNat : Nat) : Int) = y by omega, show ((z.toNat : Nat) : Int) = z by omega, ea] at hu
      have ab := amH_b Ws h x y z
      have a0 := am0_1 (amH Ws h x y z) (by omega)
      refine PrX_e r3 (h2 := h2) c1 ?_ (e2.tr u2.V)
      rw [q263_0, m_isCarrier, cI_some, g2, t5, bi_t qx, if_neg (by omega), m_isFort, cI_some, g1, t4, bi_t qy, if_neg (by omega), m_isFort, cI_some, g1, t4, bi_t qz, if_neg (by omega), if_pos z1, u1, cV_some, m_aimOf _ _ qx.1 (by omega) qy.1 (by omega) qz.1 (by omega), cI_some, hu]
      by_cases z2 : amH Ws h x y z = -1
      · rw [if_neg (fun y => y (a0.1.mpr z2)), z2]
      · rw [if_pos (fun y => z2 (a0.1.mp y)), m_aimOf _ _ qx.1 (by omega) qy.1 (by omega) qz.1 (by omega), cI_some, hu, a0.2 z2]
  · refine Pr_X i (Pr_no i.1.1 (v := -1) ?_ ?_)
    · rw [q123_0, e_isPassage, cI_some, bi_f q, if_neg (by omega)]
    · rw [q263_0]
      simp only [m_isCarrier, m_isFort, cI_some, bi_0, bi_ne, bi_1, Classical.not_not, up_s, up_a, up_i, ne_eq, Nat.reduceEqDiff, not_false_eq_true, l1, l2]
      by_cases q1 : 0 ≤ x ∧ x < h 2 4
      · rw [if_neg (fun z => z q1)]
        by_cases q2 : 0 ≤ y ∧ y < h 2 3
        · rw [if_neg (fun z => z q2), if_pos (fun z => q ⟨q1, q2, z⟩)]
        · rw [if_pos q2]
      · rw [if_pos q1]
theorem e_landsWithMore {b : Int} {Ws : Nat → WF} {h : MH} (i : InvB b Ws h) (d : Nat) {e c f p way : Int} (he : e = 0 ∨ e = 3) (hc0 : 0 ≤ c) (hc1 : c < h 2 4) (hf0 : 0 ≤ f) (hf1 : f < h 2 3) (hp0 : 1 ≤ p) (hp1 : p ≤ 20) :
    ∃ h1, Run (d + 4) 143 0 [vR 0, .inl e, .inl c, .inl f, .inl p, .inl way, vU, vU] [] h = some (some (.inl (bi (¬ ldF (h 17) (h 2 3) (plF Ws (h 6 2) (h 17) (h 18) c f p way (h 91 1 + e) (h 91 2) (h 91 3)) = -1))), h1) ∧ Eqv h h1 := by
  obtain ⟨⟨n1, n2⟩, ⟨n3, n4⟩, n5, n6⟩ := cf_n i.1 hc0 hc1 hf0 hf1
  obtain ⟨⟨o1, o2, o3⟩, s2, s3, s4⟩ := wth i.1
  have hb := rcF_b Ws (h 6 2) (h 17) (h 18) c f p (alF (h 91 1 + e) (h 91 2) way) (h 91 3)
  have ha := al_b (wd := h 91 1 + e) (wy := h 91 2) (way := way) (by omega) (by omega)
  have pb := plF_b i (c := c) (f := f) (p := p) (way := way) (wd := h 91 1 + e) (wy := h 91 2) (dm := h 91 3) hc0 hc1 hf0 hf1
  obtain ⟨h1, r1, r2⟩ := e_reach i d hc0 hc1 hf0 hf1 hp0 hp1 ha.1 ha.2 o3.1 o3.2
  have ep : (if way = 0 then h 17 (3 * f).toNat + rcF Ws (h 6 2) (h 17) (h 18) c f p (alF (h 91 1 + e) (h 91 2) way) (h 91 3) else h 17 (3 * f).toNat - rcF Ws (h 6 2) (h 17) (h 18) c f p (alF (h 91 1 + e) (h 91 2) way) (h 91 3)) = plF Ws (h 6 2) (h 17) (h 18) c f p way (h 91 1 + e) (h 91 2) (h 91 3) := rfl
  have e1 : Eqv h h1 := Eqv_ll r2
  obtain ⟨t1, t2, t3, t4, t5, t6, t7⟩ := e1.dat
  refine ⟨h1, ?_, e1⟩
  rw [q143_0, wI_ok (by omega) (by omega), e_along _ _ _ _ _ (by omega) (by omega), cI_some, r1, cI_some, e_place _ _ _ hf0 n6, cI_some, t2, e_comeTo _ _ _ _ _ (by omega) (by omega) hb.1 hb.2, cI_some, ep, e_land (e1.inv i.1) _ _ (by omega), cI_some, t2, t4, if_bi2]
theorem c_gusts {b : Int} {Ws : Nat → WF} {h : MH} (i : InvX b Ws h) (x y z w v : Int) : PrX b b Ws 142 302 [vR 0, .inl x, .inl y, .inl z, .inl w, .inl v, vU, vU] [vR 97, .inl x, .inl y, .inl z, .inl w, .inl v, vU, vU] h := by
  obtain ⟨l1, l2, l3, l4, l5, l6, l7⟩ := lg_n i.1.1
  obtain ⟨⟨o1, o2, o3⟩, s2, s3, s4⟩ := wth i.1.1
  by_cases q : ((0 ≤ x ∧ x < h 2 4) ∧ (0 ≤ y ∧ y < h 2 3) ∧ (1 ≤ z ∧ z ≤ 20) ∧ (w = 0 ∨ w = 1)) ∧ (0 ≤ v ∧ v ≤ 100)
  · obtain ⟨q0, qv⟩ := q
    obtain ⟨qx, qy, qz, qw⟩ := id q0
    have pb := plF_b i.1 (c := x) (f := y) (p := z) (way := w) (wd := h 91 1) (wy := h 91 2) (dm := h 91 3) qx.1 qx.2 qy.1 qy.2
    have pb3 := plF_b i.1 (c := x) (f := y) (p := z) (way := w) (wd := h 91 1 + 3) (wy := h 91 2) (dm := h 91 3) qx.1 qx.2 qy.1 qy.2
    obtain ⟨h1, r1, e1⟩ := e_landsWithMore i.1 35 (e := 0) (c := x) (f := y) (p := z) (way := w) (Or.inl rfl) qx.1 qx.2 qy.1 qy.2 qz.1 qz.2
    obtain ⟨a1, a2, a3, a4, a5, a6, a7⟩ := e1.dat
    obtain ⟨h2, r2, e2'⟩ := e_landsWithMore (e1.B i.1) 35 (e := 3) (c := x) (f := y) (p := z) (way := w) (Or.inr rfl) qx.1 (by omega) qy.1 (by omega) qz.1 qz.2
    rw [a1, a2, a3, a4, a6] at r2
    rw [Int.add_zero] at r1
    have e2 := e1.tr e2'
    have e3 : Eqv h (up h2 97 0 0) := e2.tr (Eqv.up rfl)
    obtain ⟨d1, d2, d3, d4, d5, d6, d7⟩ := e3.dat
    obtain ⟨h3, r3, r3'⟩ := m_comesTo (e3.B i.1) 4 (c := x) (f := y) (p := z) (way := w) qx.1 (by omega) qy.1 (by omega) qz.1 qz.2 (by rw [d7, s2]; exact o1.1) (by rw [d7, s2]; omega) (by rw [d7, s4]; exact o3.1) (by rw [d7, s4]; exact o3.2)
    rw [d1, d2, d3, d7, s2, s3, s4] at r3
    have e4 : Eqv h h3 := e3.tr (Eqv_pr r3')
    obtain ⟨k1, k2, k3, k4, k5, k6, k7⟩ := e4.dat
    obtain ⟨h4, r4, r4'⟩ := m_placeBy (e4.B i.1) 5 (c := x) (f := y) (p := z) (way := w) (wd := h 91 1 + 3) (wy := h 91 2) (dm := h 91 3) qx.1 (by omega) qy.1 (by omega) qz.1 qz.2 (by omega) (by omega) o3.1 o3.2
    rw [k1, k2, k3] at r4
    have e5 : Eqv h h4 := e4.tr (Eqv_pr r4')
    obtain ⟨j1, j2, j3, j4, j5, j6, j7⟩ := e5.dat
    obtain ⟨g1, g2, -⟩ := lg_n (e3.inv i.1.1)
    have u1 := m_land (e4.inv i.1.1) (by omega) 37 (plF Ws (h 6 2) (h 17) (h 18) x y z w (h 91 1) (h 91 2) (h 91 3)) (by omega)
    have u2 := m_land (e5.inv i.1.1) (by omega) 37 (plF Ws (h 6 2) (h 17) (h 18) x y z w (h 91 1 + 3) (h 91 2) (h 91 3)) (by omega)
    rw [k2, k4] at u1
    rw [j2, j4] at u2
    by_cases z1 : ldF (h 17) (h 2 3) (plF Ws (h 6 2) (h 17) (h 18) x y z w (h 91 1) (h 91 2) (h 91 3)) = -1
    · by_cases z2 : ldF (h 17) (h 2 3) (plF Ws (h 6 2) (h 17) (h 18) x y z w (h 91 1 + 3) (h 91 2) (h 91 3)) = -1
      · refine ⟨wI (0 + 0), h2, h4, ?_, ?_, e5.X i⟩
        · rw [q142_0, e_isShot, cI_some, bi_t q0, if_neg (by omega), if_neg (by omega), if_pos qv.2, r1, cI_some, bi_f (fun y => y z1), if_pos rfl, q142_48 (hz5 := rfl) (hz6 := rfl), r2, cI_some, bi_f (fun y => y z2), if_pos rfl]
        · rw [q302_0, m_isShot, cI_some, g1, g2, d4, d5, bi_t q0, if_neg (by omega), m_isIn, cI_some, bi_t qv, if_pos (by omega), r3, cI_some, u1, cI_some, if_neg (fun y => y z1), q302_62 (hz5 := rfl) (hz6 := rfl), k7, s2, s3, s4, wI_ok (x := _ + 3) (by omega) (by omega), r4, cI_some, u2, cI_some, if_neg (fun y => y z2)]
      · refine ⟨wI (0 + v), h2, h4, ?_, ?_, e5.X i⟩
        · rw [q142_0, e_isShot, cI_some, bi_t q0, if_neg (by omega), if_neg (by omega), if_pos qv.2, r1, cI_some, bi_f (fun y => y z1), if_pos rfl, q142_48 (hz5 := rfl) (hz6 := rfl), r2, cI_some, bi_t z2, if_neg (by omega)]
        · rw [q302_0, m_isShot, cI_some, g1, g2, d4, d5, bi_t q0, if_neg (by omega), m_isIn, cI_some, bi_t qv, if_pos (by omega), r3, cI_some, u1, cI_some, if_neg (fun y => y z1), q302_62 (hz5 := rfl) (hz6 := rfl), k7, s2, s3, s4, wI_ok (x := _ + 3) (by omega) (by omega), r4, cI_some, u2, cI_some, if_pos z2]
    · by_cases z2 : ldF (h 17) (h 2 3) (plF Ws (h 6 2) (h 17) (h 18) x y z w (h 91 1 + 3) (h 91 2) (h 91 3)) = -1
      · refine ⟨wI (wI (100 - v) + 0), h2, h4, ?_, ?_, e5.X i⟩
        · rw [q142_0, e_isShot, cI_some, bi_t q0, if_neg (by omega), if_neg (by omega), if_pos qv.2, r1, cI_some, bi_t z1, if_neg (by omega), q142_48 (hz5 := rfl) (hz6 := rfl), r2, cI_some, bi_f (fun y => y z2), if_pos rfl]
        · rw [q302_0, m_isShot, cI_some, g1, g2, d4, d5, bi_t q0, if_neg (by omega), m_isIn, cI_some, bi_t qv, if_pos (by omega), r3, cI_some, u1, cI_some, if_pos z1, q302_62 (hz5 := rfl) (hz6 := rfl), k7, s2, s3, s4, wI_ok (x := _ + 3) (by omega) (by omega), r4, cI_some, u2, cI_some, if_neg (fun y => y z2)]
      · refine ⟨wI (wI (100 - v) + v), h2, h4, ?_, ?_, e5.X i⟩
        · rw [q142_0, e_isShot, cI_some, bi_t q0, if_neg (by omega), if_neg (by omega), if_pos qv.2, r1, cI_some, bi_t z1, if_neg (by omega), q142_48 (hz5 := rfl) (hz6 := rfl), r2, cI_some, bi_t z2, if_neg (by omega)]
        · rw [q302_0, m_isShot, cI_some, g1, g2, d4, d5, bi_t q0, if_neg (by omega), m_isIn, cI_some, bi_t qv, if_pos (by omega), r3, cI_some, u1, cI_some, if_pos z1, q302_62 (hz5 := rfl) (hz6 := rfl), k7, s2, s3, s4, wI_ok (x := _ + 3) (by omega) (by omega), r4, cI_some, u2, cI_some, if_pos z2]
  · refine Pr_X i (Pr_no i.1.1 (v := -1) ?_ ?_)
    · rw [q142_0, e_isShot, cI_some]
      by_cases q1 : ((0 ≤ x ∧ x < h 2 4) ∧ (0 ≤ y ∧ y < h 2 3) ∧ (1 ≤ z ∧ z ≤ 20) ∧ (w = 0 ∨ w = 1))
      · rw [bi_t q1, if_neg (by omega)]
        by_cases q2 : v < 0
        · rw [if_pos q2]
        · rw [if_neg q2, if_neg (by omega)]
      · rw [bi_f q1, if_pos rfl]
    · rw [q302_0, m_isShot, cI_some, up_i (by omega), up_i (by omega), l1, l2]
      by_cases q1 : ((0 ≤ x ∧ x < h 2 4) ∧ (0 ≤ y ∧ y < h 2 3) ∧ (1 ≤ z ∧ z ≤ 20) ∧ (w = 0 ∨ w = 1))
      · rw [bi_t q1, if_neg (by omega), m_isIn, cI_some, bi_f (fun y => q ⟨q1, y⟩), if_neg (by omega)]
      · rw [bi_f q1, if_pos rfl]
theorem m_freeG (d : Nat) (x : Int) (h : MH) (h5 : h 97 27 ≤ 5) : Run (d + 1) 228 0 [vR 97, vR 110, .inl x] [] h = some (some (.inl (bi ((0 ≤ x ∧ x < h 97 27) ∧ h 110 (16 + 3 * x + 2).toNat = 0))), h) := by
  by_cases q : 0 ≤ x ∧ x < h 97 27
  · rw [m_free d x h q.1 (by omega)]
    rw [bi_congr (e := (0 ≤ x ∧ x < h 97 27) ∧ h 110 (16 + 3 * x + 2).toNat = 0) (by constructor <;> intro _ <;> omega)]
  · rw [q228_0, m_isCarrier, cI_some, bi_f q, if_pos rfl, bi_f (fun z => q z.1)]
theorem c_passing {b : Int} {Ws : Nat → WF} {h : MH} (i : InvX b Ws h) (x y : Int) : PrX b b Ws 144 303 [vR 0, .inl x, .inl y, vU, vU, vU, vU, vU, vU] [vR 97, .inl x, .inl y, vU, vU, vU] h := by
  obtain ⟨l1, l2, l3, l4, l5, l6, l7⟩ := lg_n i.1.1
  have r := nowR i.1.1
  have o := nowOK i.1.1
  by_cases q : ((0 ≤ x ∧ x < h 2 4) ∧ (0 ≤ y ∧ y < h 2 4) ∧ ¬ x = y) ∧ h 91 (16 + x).toNat = 0 ∧ h 91 (16 + y).toNat = 0
  · obtain ⟨q0, q1, q2⟩ := q
    obtain ⟨qx, qy, qn⟩ := id q0
    have ax := so_at o x qx.1 qx.2
    have ay := so_at o y qy.1 qy.2
    have mx_ := st_at r x qx.1 (by omega)
    have my_ := st_at r y qy.1 (by omega)
    have lx := st_late r x qx.1 (by omega)
    have ly := st_late r y qy.1 (by omega)
    generalize hA : h 91 (6 + x).toNat = A at ax mx_
    generalize hB : h 91 (6 + y).toNat = B at ay my_
    obtain ⟨h1, r1, e1, i1⟩ := e_leastPowder i 34 (c := x) (f := A) (to := B) qx.1 qx.2 ax.1 ax.2 ay.1 (by omega)
    have t1 : h1 2 = h 2 := e1 _ (by omega) (by omega) (by omega) (by omega)
    obtain ⟨h2, r2, e2', i2⟩ := e_leastPowder i1 34 (c := y) (f := B) (to := A) qy.1 (by rw [t1]; exact qy.2) ay.1 (by rw [t1]; exact ay.2) ax.1 (by omega)
    rw [e1.am] at r2
    have e2 := e1.tr e2'
    have n1 : h1 91 = h 91 := e1 _ (by omega) (by omega) (by omega) (by omega)
    have v3 : Eqv h2 (up h2 97 0 0) := Eqv.up rfl
    have i3 := v3.X i2
    have ea3 : amH Ws (up h2 97 0 0) = amH Ws h := by rw [v3.am, e2.am]
    have t2 : h2 2 = h 2 := e2 _ (by omega) (by omega) (by omega) (by omega)
    have n2 : h2 110 = h 110 := e2 _ (by omega) (by omega) (by omega) (by omega)
    have w2 : h2 18 = h 18 := e2 _ (by omega) (by omega) (by omega) (by omega)
    have u2 : h2 97 = h 97 := e2 _ (by omega) (by omega) (by omega) (by omega)
    have f2 : h2 106 = h 106 := e2 _ (by omega) (by omega) (by omega) (by omega)
    have t3 : up h2 97 0 0 2 = h 2 := by rw [up_ne (by omega), t2]
    have n3 : up h2 97 0 0 110 = h 110 := by rw [up_ne (by omega), n2]
    have m27 : up h2 97 0 0 97 27 = h 2 4 := by rw [up_i (by omega), u2, l2]
    have cab := amH_b Ws h x A B
    have cba := amH_b Ws h y B A
    have wx := (cf_n i.1.1 qx.1 qx.2 ax.1 ax.2).1.1
    have wy := (cf_n i.1.1 qy.1 qy.2 ay.1 ay.2).1.1
    have gx := lg_carrier i.1.1 (3 * x) (by omega) (by omega)
    have gy := lg_carrier i.1.1 (3 * y) (by omega) (by omega)
    have c1 : ∀ v : Int, (v = if amH Ws h x A B = -1 then -1 else if amH Ws h y B A = -1 then -1 else if h 18 (3 * x).toNat + amH Ws h x A B = h 18 (3 * y).toNat + amH Ws h y B A then 0 else if h 18 (3 * x).toNat + amH Ws h x A B ≤ h 18 (3 * y).toNat + amH Ws h y B A then 2 else 1) → Run 40 144 0 [vR 0, .inl x, .inl y, vU, vU, vU, vU, vU, vU] [] h = some (some (.inl v), h2) := by
      intro v hv
      rw [hv, q144_0, e_isPair, cI_some, bi_t q0, if_neg (by omega), wI_ok (x := 16 + x) (by omega) (by omega), wI_ok (x := 16 + y) (by omega) (by omega), wI_ok (x := 6 + x) (by omega) (by omega), wI_ok (x := 6 + y) (by omega) (by omega), if_pos (by omega), if_neg (fun z => z q1), if_pos (by omega), if_pos q2, if_pos (by omega), if_pos (by omega), hA, hB, r1, cI_some, r2, cI_some]
      by_cases z1 : amH Ws h x A B = -1
      · rw [if_pos z1, if_pos z1]
      · rw [if_neg z1, if_neg z1]
        by_cases z2 : amH Ws h y B A = -1
        · rw [if_neg (fun z => z z2), if_pos z2]
        · rw [if_pos z2, if_neg z2, e_weight _ _ _ qx.1 (by omega), cI_some, e_weight _ _ _ qy.1 (by omega), cI_some, w2, wI_ok (by omega) (by omega), wI_ok (by omega) (by omega)]
          by_cases z3 : h 18 (3 * x).toNat + amH Ws h x A B = h 18 (3 * y).toNat + amH Ws h y B A
          · rw [if_neg (fun z => z z3), if_pos z3]
          · rw [if_pos z3, if_neg z3]
            split <;> rfl
    have fx : Run 39 228 0 [vR 97, vR 110, .inl x] [] (up h2 97 0 0) = some (some (.inl 1), up h2 97 0 0) := by
      rw [m_freeG _ _ _ (by omega), m27, n3, bi_t ⟨qx, by rw [lx]; exact q1⟩]
    have fy : Run 39 228 0 [vR 97, vR 110, .inl y] [] (up h2 97 0 0) = some (some (.inl 1), up h2 97 0 0) := by
      rw [m_freeG _ _ _ (by omega), m27, n3, bi_t ⟨qy, by rw [ly]; exact q2⟩]
    by_cases zf : A = B
    · subst zf
      have e0 : amH Ws h x A A = -1 := am_self _ _ _ _ _ _ _ _ _ _
      refine ⟨-1, h2, up h2 97 0 0, c1 _ (by rw [if_pos e0]), ?_, i3⟩
      rw [q303_0, fx, cI_some, if_neg (by omega), fy, cI_some, if_neg (by omega), if_neg qn, m_folk _ _ _ qx.1 (by omega), cI_some, if_pos (by omega), m_folk _ _ _ qy.1 (by omega), cI_some, if_pos (by omega), n3, mx_, my_, if_neg (fun z => z rfl)]
    · obtain ⟨h4, s1, s2, s3, s4⟩ := m_layAims i3.1 3 (c := x) qx.1 (by rw [t3]; exact qx.2)
      have i4 := s2.V.X i3
      have t4 : h4 2 = h 2 := by rw [s2.c (by omega) (by omega) (by omega), t3]
      obtain ⟨h5, p1, p2, p3, p4⟩ := m_layAims i4.1 3 (c := y) qy.1 (by rw [t4]; exact qy.2)
      have n5 : h5 110 = h 110 := by rw [p2.c (by omega) (by omega) (by omega), s2.c (by omega) (by omega) (by omega), n3]
      have k5 : h5 106 = h 106 := by rw [p2.c (by omega) (by omega) (by omega), s2.c (by omega) (by omega) (by omega), up_ne (by omega), f2]
      have ea4 : amH Ws h4 = amH Ws h := by rw [s2.V.am, ea3]
      have w1 : h5 113 (64 * x.toNat + 8 * A.toNat + B.toNat) = am0 (amH Ws h x A B) := by
        rw [p4 _ (by omega)]
        have := s3 A.toNat B.toNat (by rw [t3]; omega) (by omega)
        rw [show ((A.toNat : Nat) : Int) = A by omega, show ((B.toNat : Nat) : Int) = B by omega, ea3] at this
        exact this
      have w1' : h5 113 (64 * y.toNat + 8 * B.toNat + A.toNat) = am0 (amH Ws h y B A) := by
        have := p3 B.toNat A.toNat (by rw [t4]; omega) (by omega)
        rw [show ((A.toNat : Nat) : Int) = A by omega, show ((B.toNat : Nat) : Int) = B by omega, ea4] at this
        exact this
      have a0 := am0_1 (amH Ws h x A B) (by omega)
      have a1 := am0_1 (amH Ws h y B A) (by omega)
      refine ⟨_, h2, h5, c1 _ rfl, ?_, p2.V.X i4⟩
      rw [q303_0, fx, cI_some, if_neg (by omega), fy, cI_some, if_neg (by omega), if_neg qn, m_folk _ _ _ qx.1 (by omega), cI_some, if_pos (by omega), m_folk _ _ _ qy.1 (by omega), cI_some, if_pos (by omega), n3, mx_, my_, if_pos zf, s1, cV_some, p1, cV_some, m_folk _ _ _ qx.1 (by omega), cI_some, if_pos (by omega), m_folk _ _ _ qy.1 (by omega), cI_some, if_pos (by omega), n5, mx_, my_, m_aimOf _ _ qx.1 (by omega) ax.1 (by omega) ay.1 (by omega), cI_some, m_folk _ _ _ qy.1 (by omega), cI_some, if_pos (by omega), m_folk _ _ _ qx.1 (by omega), cI_some, if_pos (by omega), n5, mx_, my_, m_aimOf _ _ qy.1 (by omega) ay.1 (by omega) ax.1 (by omega), cI_some, w1, w1']
      by_cases z1 : amH Ws h x A B = -1
      · rw [if_pos z1, if_pos (a0.1.mpr z1)]
      · rw [if_neg z1, if_neg (fun z => z1 (a0.1.mp z))]
        by_cases z2 : amH Ws h y B A = -1
        · rw [if_pos z2, if_neg (fun z => z (a1.1.mpr z2))]
        · rw [if_neg z2, if_pos (fun z => z2 (a1.1.mp z)), m_told _ _ _ _ qx.1 (by omega) (by omega) (by omega), cI_some, m_told _ _ _ _ qy.1 (by omega) (by omega) (by omega), cI_some, k5, Int.add_zero, Int.add_zero, gx, gy, a0.2 z1, a1.2 z2]
          simp (disch := omega) only [wI_ok]
          by_cases z3 : h 18 (3 * x).toNat + amH Ws h x A B = h 18 (3 * y).toNat + amH Ws h y B A
          · rw [if_pos z3, if_pos (by omega), if_pos (by omega)]
          · rw [if_neg z3]
            by_cases z4 : h 18 (3 * x).toNat + amH Ws h x A B ≤ h 18 (3 * y).toNat + amH Ws h y B A
            · rw [if_pos z4, if_pos (by omega), if_neg (by omega)]
            · rw [if_neg z4, if_neg (by omega)]
  · refine Pr_X i (Pr_no i.1.1 (v := -1) ?_ ?_)
    · rw [q144_0, e_isPair, cI_some]
      by_cases q1 : (0 ≤ x ∧ x < h 2 4) ∧ (0 ≤ y ∧ y < h 2 4) ∧ ¬ x = y
      · rw [bi_t q1, if_neg (by omega), wI_ok (x := 16 + x) (by omega) (by omega), wI_ok (x := 16 + y) (by omega) (by omega), if_pos (by omega)]
        by_cases q2 : h 91 (16 + x).toNat = 0
        · rw [if_neg (fun z => z q2), if_pos (by omega), if_neg (fun z => q ⟨q1, q2, z⟩)]
        · rw [if_pos q2]
      · rw [bi_f q1, if_pos rfl]
    · rw [q303_0, m_freeG _ _ _ (by rw [up_i (by omega), l2]; exact l6), cI_some, up_i (by omega), up_a (by omega), l2]
      by_cases q1 : (0 ≤ x ∧ x < h 2 4) ∧ h 110 (16 + 3 * x + 2).toNat = 0
      · rw [bi_t q1, if_neg (by omega), m_freeG _ _ _ (by rw [up_i (by omega), l2]; exact l6), cI_some, up_i (by omega), up_a (by omega), l2]
        by_cases q2 : (0 ≤ y ∧ y < h 2 4) ∧ h 110 (16 + 3 * y + 2).toNat = 0
        · have lx := st_late r x q1.1.1 (by omega)
          have ly := st_late r y q2.1.1 (by omega)
          rw [bi_t q2, if_neg (by omega), if_pos (by omega)]
        · rw [bi_f q2, if_pos rfl]
      · rw [bi_f q1, if_pos rfl]
