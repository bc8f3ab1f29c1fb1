/-! a plan is told -/
def plT (w : Int × Int × Int × Int) : Prop := (0 ≤ w.1 ∧ w.1 ≤ 3) ∧ (0 ≤ w.2.1 ∧ w.2.1 ≤ 9) ∧ (w.1 = 1 → w.2.2.1 = -1) ∧ (w.1 = 3 → 0 ≤ w.2.2.1 ∧ w.2.2.1 ≤ 9) ∧ (w.1 = 0 ∨ w.1 = 2 → w.2.2.1 = 0 ∨ w.2.2.1 = 1) ∧ (w.1 = 0 → 0 ≤ w.2.2.2 ∧ w.2.2.2 ≤ 99) ∧ (w.1 ≠ 0 → w.2.2.2 = -1)
theorem stpT_ok {T : Nat → Int} {L a : Nat} {w : Int × Int × Int × Int} (h : (stpF T L a).2 = some w) : plT w := by
  unfold stpF at h
  obtain ⟨k, hk⟩ : ∃ k, k = kdF T L (skF T L a) := ⟨_, rfl⟩
  have kc := kd_cases T L (skF T L a)
  rw [← hk] at h kc
  by_cases q0 : k = -1
  · rw [if_pos q0] at h; cases h
  rw [if_neg q0] at h
  by_cases q1 : dgP T L (skF T L (skF T L a + 1)) 9
  · rw [if_neg (fun z => z q1)] at h
    have d1 := q1.2
    by_cases q2 : k = 1
    · rw [if_pos q2] at h
      have := Option.some.inj h
      rw [← this]
      unfold plT
      dsimp only
      omega
    · rw [if_neg q2] at h
      by_cases q3 : dgP T L (skF T L (skF T L (skF T L a + 1) + 1)) (if k = 3 then 9 else 1)
      · rw [if_neg (fun z => z q3)] at h
        have d2 := q3.2
        by_cases q4 : k = 0
        · rw [if_neg (fun z => z q4)] at h
          rw [if_neg (by omega)] at d2
          by_cases q5 : dgP T L (skF T L (skF T L (skF T L (skF T L a + 1) + 1) + 1)) 9
          · rw [if_neg (fun z => z q5)] at h
            have d3 := q5.2
            by_cases q6 : dgP T L (skF T L (skF T L (skF T L (skF T L (skF T L a + 1) + 1) + 1) + 1)) 9
            · rw [if_neg (fun z => z q6)] at h
              have d4 := q6.2
              have := Option.some.inj h
              rw [← this]
              unfold plT
              dsimp only
              omega
            · rw [if_pos q6] at h; cases h
          · rw [if_pos q5] at h; cases h
        · rw [if_pos q4] at h
          have := Option.some.inj h
          rw [← this]
          unfold plT
          dsimp only
          by_cases q7 : k = 3
          · rw [if_pos q7] at d2; omega
          · rw [if_neg q7] at d2; omega
      · rw [if_pos q3] at h; cases h
  · rw [if_pos q1] at h; cases h
theorem pln_ok {T : Nat → Int} {L : Nat} : ∀ (r a : Nat), (plnF T L r a).1 = -1 → (1 ≤ (plnF T L r a).2.length ∧ (plnF T L r a).2.length ≤ r) ∧ ∀ w, w ∈ (plnF T L r a).2 → plT w
  | 0, a, h => by
    have : ((a : Nat) : Int) = -1 := h
    omega
  | r + 1, a, h => by
    unfold plnF at h ⊢
    have so := fun w => stpT_ok (T := T) (L := L) (a := a) (w := w)
    generalize stpF T L a = o at h so ⊢
    obtain ⟨a2, o⟩ := o
    cases o with
    | none =>
      have : ((a2 : Nat) : Int) = -1 := h
      omega
    | some w =>
      have w0 := so w rfl
      dsimp only at h ⊢
      by_cases q1 : skF T L a2 < L
      · rw [if_neg (c := ¬ skF T L a2 < L) (fun z => z q1)] at h ⊢
        by_cases q2 : r = 0
        · rw [if_pos q2] at h
          have : ((skF T L a2 : Nat) : Int) = -1 := h
          omega
        · rw [if_neg q2] at h ⊢
          by_cases q3 : T (skF T L a2) = 59
          · rw [if_pos q3] at h ⊢
            obtain ⟨⟨i1, i2⟩, i3⟩ := pln_ok r (skF T L a2 + 1) h
            refine ⟨⟨by show 1 ≤ (plnF T L r (skF T L a2 + 1)).2.length + 1; omega, by show (plnF T L r (skF T L a2 + 1)).2.length + 1 ≤ r + 1; omega⟩, fun y hy => ?_⟩
            rcases List.mem_cons.1 hy with rfl | hy
            · exact w0
            · exact i3 y hy
          · rw [if_neg q3] at h
            have : ((skF T L a2 : Nat) : Int) = -1 := h
            omega
      · rw [if_pos (c := ¬ skF T L a2 < L) q1]
        refine ⟨⟨by show 1 ≤ 1; omega, by show 1 ≤ r + 1; omega⟩, fun y hy => ?_⟩
        rcases List.mem_cons.1 hy with rfl | hy
        · exact w0
        · cases hy
theorem rwL_eq : ∀ (ws : List (Int × Int × Int × Int)) (D1 D2 : Nat → Int) (s1 s2 : Nat), rwL D1 s1 ws → rwL D2 s2 ws → ∀ i, i < ws.length → ∀ w, w < 4 → D1 (s1 + 4 * i + w) = D2 (s2 + 4 * i + w)
  | [], D1, D2, s1, s2, h1, h2, i, hi, w, hw => absurd hi (by show ¬ i < 0; omega)
  | y :: ws, D1, D2, s1, s2, h1, h2, 0, hi, w, hw => by
    obtain ⟨⟨a1, a2, a3, a4⟩, -⟩ := h1
    obtain ⟨⟨b1, b2, b3, b4⟩, -⟩ := h2
    have c : w = 0 ∨ w = 1 ∨ w = 2 ∨ w = 3 := by omega
    rcases c with rfl | rfl | rfl | rfl
    · exact a1.trans b1.symm
    · exact a2.trans b2.symm
    · exact a3.trans b3.symm
    · exact a4.trans b4.symm
  | y :: ws, D1, D2, s1, s2, h1, h2, i + 1, hi, w, hw => by
    have := rwL_eq ws D1 D2 (s1 + 4) (s2 + 4) h1.2 h2.2 i (by have : i + 1 < ws.length + 1 := hi; omega) w hw
    rw [show s1 + 4 * (i + 1) + w = s1 + 4 + 4 * i + w by omega, show s2 + 4 * (i + 1) + w = s2 + 4 + 4 * i + w by omega]
    exact this
theorem rwL_ok : ∀ (ws : List (Int × Int × Int × Int)) (D : Nat → Int) (s : Nat), (∀ w, w ∈ ws → plT w) → rwL D s ws → ∀ i, i < ws.length → plOK (fun w => D (s + 4 * i + w))
  | [], D, s, hw, h, i, hi => absurd hi (by show ¬ i < 0; omega)
  | y :: ws, D, s, hw, h, 0, hi => by
    obtain ⟨⟨a1, a2, a3, a4⟩, -⟩ := h
    have y0 := hw y (List.mem_cons_self ..)
    unfold plT at y0
    rw [← a1, ← a2, ← a3, ← a4] at y0
    exact y0
  | y :: ws, D, s, hw, h, i + 1, hi => by
    have := rwL_ok ws D (s + 4) (fun w z => hw w (List.mem_cons_of_mem _ z)) h.2 i (by have : i + 1 < ws.length + 1 := hi; omega)
    have e : (fun w => D (s + 4 * (i + 1) + w)) = fun w => D (s + 4 + 4 * i + w) := funext fun w => by rw [show s + 4 * (i + 1) + w = s + 4 + 4 * i + w by omega]
    rw [e]
    exact this
def coP (n a j : Nat) : Prop := (a = 1 ∧ j = 1) ∨ (a = 97 ∧ (j = 6 ∨ j = 30)) ∨ a = 33 + n ∨ (a = 31 ∧ j = n) ∨ (a = 7 ∧ j = 1) ∨ (a = 108 ∧ 64 * n ≤ j) ∨ (a = 109 ∧ (j = n ∨ j = 4))
theorem Inv_plan {b : Int} {g g2 : MH} (i : Inv0 b g) {n : Nat} (n4 : n < 4) (hn : g 7 1 = n) (e : ∀ a j, relB a j = true → ¬ coP n a j → g2 a j = g a j) (c1 : g2 1 1 = 0) (c2 : g2 97 6 = 0) (c3 : g2 7 1 = (n : Int) + 1) (c4 : g2 97 30 = (n : Int) + 1) (c5 : g2 109 n = g2 31 n) (c6 : 1 ≤ g2 31 n ∧ g2 31 n ≤ 16) (c7 : ∀ k : Nat, (k : Int) < g2 31 n → (∀ w, w < 4 → g2 108 (64 * n + 4 * k + w) = g2 (33 + n) (4 * k + w)) ∧ plOK (fun w => g2 (33 + n) (4 * k + w))) : Inv0 b g2 := by
  obtain ⟨t1, t2, t3, t4, t5, t6, t7, t8⟩ := (Inv0_iff b g).mp i
  obtain ⟨l1, l2, l3, l4, l5, l6, l7⟩ := lg_n i
  have e1 : ∀ a, (∀ j, relB a j = true) → a ≠ 1 → a ≠ 97 → ¬ (33 ≤ a ∧ a < 33 + 4) → a ≠ 31 → a ≠ 7 → a ≠ 108 → a ≠ 109 → g2 a = g a := fun a h0 h1 h2 h3 h4 h5 h6 h7 => funext fun j => e a j (h0 j) (by unfold coP; omega)
  have e0 : ∀ a j, relB a j = true → ¬ coP n a j → g2 a j = g a j := e
  have el : lgE g g2 := ⟨e0 _ _ rfl (by unfold coP; omega), e0 _ _ rfl (by unfold coP; omega)⟩
  refine (Inv0_iff b g2).mpr ⟨⟨by rw [c1]; omega, by rw [c1, c2], fun k hk => by rw [c1] at hk; omega⟩, iDamp_c ?_ ?_ t2, iLg_c el ?_ ?_ ?_ ?_ ?_ ?_ ?_ ?_ t3, iNow_c el ?_ ?_ ?_ ?_ ?_ ?_ ?_ ?_ t4, iImg_c (Int.le_refl b) l4 l6 el ?_ ?_ ?_ ?_ ?_ t5, iGue_c el ?_ ?_ ?_ ?_ ?_ ?_ ?_ ?_ ?_ ?_ t6, ?_, iLw_c ?_ ?_ ?_ ?_ t8⟩
  all_goals first | (exact e0 _ _ rfl (by unfold coP; omega)) | (exact e1 _ (fun _ => rfl) (by omega) (by omega) (by omega) (by omega) (by omega) (by omega) (by omega)) | (intro j; exact e0 _ _ rfl (by unfold coP; omega)) | skip
  · intro k hk
    exact e1 _ (fun j => rel_h j k hk) (by omega) (by omega) (by omega) (by omega) (by omega) (by omega) (by omega)
  · obtain ⟨⟨p1, p2, p3⟩, p4⟩ := t7
    refine ⟨⟨by rw [c3, c4], by rw [c3]; omega, by rw [c3]; omega⟩, fun k hk => ?_⟩
    rw [c3] at hk
    by_cases z : k = n
    · subst z
      exact ⟨c5, c6, c7⟩
    · obtain ⟨q1, q2, q3⟩ := p4 k (by omega)
      have es : g2 31 k = g 31 k := e0 _ _ rfl (by unfold coP; omega)
      have er : g2 (33 + k) = g (33 + k) := funext fun j => e0 _ _ (rel_p j k (by omega)) (by unfold coP; omega)
      rw [es, er, e 109 k rfl (by unfold coP; omega)]
      refine ⟨q1, q2, fun w hw => ?_⟩
      obtain ⟨r1, r2⟩ := q3 w hw
      exact ⟨fun y hy => by rw [e 108 _ rfl (by unfold coP; omega)]; exact r1 y hy, r2⟩
theorem m_planCopy {n : Nat} (n4 : n < 4) (d : Nat) {z1 : MV} (y1 : cat z1 = 1) : ∀ (r k : Nat) (G : MH), k + r = 64 → G 97 30 = n → (∀ j, j < k → G 108 (64 * n + j) = G 108 (256 + j)) →
    ∃ G2, Run (d + 1) 216 137 [vR 97, .inl 2, z1, .inl (k : Int)] [] G = some (some (.inl (n : Int)), up (up G2 109 n (G 109 4)) 97 30 ((n : Int) + 1)) ∧ (∀ c, c ≠ 108 → G2 c = G c) ∧ (∀ j, (j < 64 * n ∨ 256 ≤ j) → G2 108 j = G 108 j) ∧ ∀ j, j < 64 → G2 108 (64 * n + j) = G 108 (256 + j) := by
  intro r
  induction r with
  | zero =>
    intro k G hk g1 g3
    refine ⟨G, ?_, fun _ _ => rfl, fun _ _ => rfl, fun j hj => g3 j (by omega)⟩
    have p1 : up G 109 n (G 109 4) 97 30 = n := by rw [up_a (by omega)]; exact g1
    rw [q216_137 (hz0 := rfl) (hz1 := y1), if_pos (by omega), g1, if_pos (by omega), show ((n : Nat) : Int).toNat = n by omega, p1, wI_ok (x := (n : Int) + 1) (by omega) (by omega), up_s, wI_ok (by omega) (by omega), show (n : Int) + 1 - 1 = n by omega]
  | succ r ih =>
    intro k G hk g1 g3
    have hd := q216_137 d (.inl 2) rfl z1 y1 (k : Int) G
    rw [if_neg (by omega), wI_ok (x := 256 + (k : Int)) (by omega) (by omega), if_pos (by omega), g1, wI_ok (x := 64 * (n : Int)) (by omega) (by omega), wI_ok (x := 64 * (n : Int) + k) (by omega) (by omega), if_pos (by omega), show (256 + (k : Int)).toNat = 256 + k by omega, show (64 * (n : Int) + k).toNat = 64 * n + k by omega, wI_ok (by omega) (by omega)] at hd
    obtain ⟨G2, u1, u2, u3, u4⟩ := ih (k + 1) (up G 108 (64 * n + k) (G 108 (256 + k))) (by omega) (by rw [up_a (by omega)]; exact g1) (fun j hj => by
      by_cases z : j = k
      · rw [z, up_s, up_i (by omega)]
      · rw [up_i (by omega), up_i (by omega)]; exact g3 j (by omega))
    rw [up_a (by omega)] at u1
    refine ⟨G2, hd.trans u1, fun c hc => by rw [u2 c hc, up_ne hc], fun j hj => by rw [u3 j hj, up_i (by omega)], fun j hj => by rw [u4 j hj, up_i (by omega)]⟩
theorem t_plan {b : Int} {Ws : Nat → WF} {h : MH} (i : InvX b Ws h) : PrE b b 44 216 [vR 0, .inl 2] [vR 97, .inl 2, vU, vU] h := by
  obtain ⟨L, e1, e2, e3, e4, e5⟩ := tp_n i.1.1
  obtain ⟨⟨w1, w2, w3⟩, -⟩ := ((Inv0_iff b h).mp i.1.1).2.2.2.2.2.2.1
  have hd := q44_0 39 2 h
  rw [if_pos (by omega), q44_27, if_pos (by omega), q44_83, if_neg (fun z => z rfl), q58_0] at hd
  by_cases q0 : 4 ≤ h 7 1
  · rw [if_pos q0, cI_some, if_pos rfl] at hd
    exact (t_fail i hd (fun _ _ _ _ _ _ _ _ _ _ _ _ => rfl) e2 e3 e4 e5 (Or.inr (Or.inr (Or.inl ⟨rfl, by omega⟩)))).E
  · obtain ⟨h1, u1, u2, u3⟩ := rd_plan i.1.1 e1 34
    rw [if_neg q0, cI_some, if_neg (by omega), u1, cI_some] at hd
    by_cases hs : (plnF (h 15) L 16 0).1 = -1
    · obtain ⟨m1, m2⟩ := u3 hs
      obtain ⟨⟨p1, p2⟩, p3⟩ := pln_ok 16 0 hs
      obtain ⟨ws, hws⟩ : ∃ ws, ws = (plnF (h 15) L 16 0).2 := ⟨_, rfl⟩
      rw [← hws] at m1 m2 p1 p2 p3
      obtain ⟨n, hn⟩ : ∃ n : Nat, h 7 1 = n := ⟨(h 7 1).toNat, by omega⟩
      have c1 : h1 7 1 = n := by rw [u2 _ _ (by omega) (by omega) (by omega) (by omega) (by omega) (by omega) (by omega) (by omega) (by omega) (by omega)]; exact hn
      have c0 : up h1 1 1 0 7 1 = n := by rw [up_a (by omega)]; exact c1
      have cf : ∀ (f : Nat → Int) (v : Int), up (cpy (up h1 1 1 0) f (33 + n) 0 0 64) 31 n v 7 1 = n := fun f v => by rw [up_a (by omega), cpy_ne (by omega), up_a (by omega)]; exact c1
      have cc : ∀ (f : Nat → Int), cpy (up h1 1 1 0) f (33 + n) 0 0 64 7 1 = n := fun f => by rw [cpy_ne (by omega), up_a (by omega)]; exact c1
      have cd : ∀ (f : Nat → Int), cpy (up h1 1 1 0) f (33 + n) 0 0 64 7 4 = (ws.length : Nat) := fun f => by rw [cpy_ne (by omega), up_a (by omega)]; exact m1
      rw [if_neg (fun z => z hs), q59_0, q58_0, c0, if_neg (by omega), cI_some, if_pos (by omega), c0, if_pos (by omega), show ((n : Nat) : Int).toNat = n by omega, cc, if_pos (by omega), show ((n : Nat) : Int).toNat = n by omega, cd, cf, wI_ok (x := (n : Int) + 1) (by omega) (by omega), up_s, wI_ok (by omega) (by omega), cI_some, show (n : Int) + 1 - 1 = n by omega] at hd
      obtain ⟨H1, hH1⟩ : ∃ H1, H1 = up (up (cpy (up h1 1 1 0) (up h1 1 1 0 37) (33 + n) 0 0 64) 31 n ((ws.length : Nat) : Int)) 7 1 ((n : Int) + 1) := ⟨_, rfl⟩
      rw [← hH1] at hd
      have k1 : ∀ a j, a ≠ 33 + n → ¬ (a = 31 ∧ j = n) → ¬ (a = 7 ∧ j = 1) → ¬ (a = 1 ∧ j = 1) → H1 a j = h1 a j := by
        intro a j n1 n2 n3 n4
        rw [hH1]
        have s1 : ∀ (g : MH) (c k : Nat) (v : Int), ¬ (a = c ∧ j = k) → up g c k v a j = g a j := by
          intro g c k v ne
          by_cases z : a = c
          · subst z; exact up_i (fun y => ne ⟨rfl, y⟩)
          · exact up_a z
        rw [s1 _ _ _ _ n3, s1 _ _ _ _ n2, cpy_ne n1, s1 _ _ _ _ n4]
      have km : ∀ c, 97 ≤ c → H1 c = h c := fun c hc => funext fun j => by rw [k1 c j (by omega) (by omega) (by omega) (by omega), u2.m hc]
      have kc : H1 7 1 = (n : Int) + 1 := by rw [hH1, up_s]
      have kt : H1 1 1 = 0 := by rw [hH1, up_a (by omega), up_a (by omega), cpy_ne (by omega), up_s]
      have ks : H1 31 n = (ws.length : Nat) := by rw [hH1, up_a (by omega), up_s]
      have kr : ∀ j, j < 64 → H1 (33 + n) j = h1 37 j := fun j hj => by
        rw [hH1, up_ne (by omega), up_ne (by omega), cpy_at, up_ne (by omega)]
        show (if 0 ≤ j ∧ j < 0 + 64 then h1 37 (0 + (j - 0)) else _) = _
        rw [if_pos (by omega), show 0 + (j - 0) = j by omega]
      have f0 := FRm_th H1 0
      obtain ⟨v, h2, v1, v2, v3, -, v5⟩ := m_fault (T := h 15) (L := L) e4 e3 (g := up H1 97 0 0) (by rw [up_i (by omega), km _ (by omega)]; exact e2) (by rw [up_ne (by omega), km _ (by omega)]; exact e5) 6 2
      rw [if_neg (by omega), if_neg (by omega), if_pos rfl, hs] at v3
      subst v3
      obtain ⟨r1, r2⟩ := v5 rfl hs
      rw [← hws] at r1 r2
      have fr := f0.tr v2
      have g1 : h2 97 30 = n := by rw [fr _ _ (by unfold prG prF_; omega) (by omega) (by omega) (by omega) (by omega) (by omega), km _ (by omega), w1]; exact hn
      obtain ⟨G2, x1, x2, x3, x4⟩ := m_planCopy (n := n) (by omega) 39 (z1 := .inl (h2 97 6)) rfl 64 0 (up h2 97 6 0) (by omega) (by rw [up_i (by omega)]; exact g1) (fun j hj => by omega)
      rw [up_a (by omega), r1] at x1
      have hm : Run 40 216 0 [vR 97, .inl 2, vU, vU] [] H1 = some (some (.inl (n : Int)), up (up G2 109 n ((ws.length : Nat) : Int)) 97 30 ((n : Int) + 1)) := by
        rw [m_textGo (by omega) (fun z => by omega) (fun _ => by rw [km _ (by omega), w1]; omega) 39, q216_43 (hz1 := rfl) (hz2 := rfl), v1, cI_some, if_pos rfl, if_pos (by omega), if_neg (fun z => z rfl)]
        exact x1
      obtain ⟨H2, hH2⟩ : ∃ H2, H2 = up (up G2 109 n ((ws.length : Nat) : Int)) 97 30 ((n : Int) + 1) := ⟨_, rfl⟩
      rw [← hH2] at hm
      have y1 : ∀ a j, ¬ (a = 108) → ¬ (a = 109 ∧ j = n) → ¬ (a = 97 ∧ (j = 30 ∨ j = 6)) → H2 a j = h2 a j := by
        intro a j n1 n2 n3
        rw [hH2]
        have s1 : ∀ (g : MH) (c k : Nat) (v : Int), ¬ (a = c ∧ j = k) → up g c k v a j = g a j := by
          intro g c k v ne
          by_cases z : a = c
          · subst z; exact up_i (fun y => ne ⟨rfl, y⟩)
          · exact up_a z
        rw [s1 _ _ _ _ (by omega), s1 _ _ _ _ n2, x2 a n1, s1 _ _ _ _ (by omega)]
      have yc : ∀ a, a < 97 → H2 a = H1 a := fun a ha => funext fun j => by rw [y1 a j (by omega) (by omega) (by omega), fr _ _ (by omega) (by omega) (by omega) (by omega) (by omega) (by omega)]
      have all : ∀ a j, relB a j = true → ¬ coP n a j → H2 a j = h a j := by
        intro a j r nc
        unfold coP at nc
        by_cases za : a < 97
        · rw [yc a za, k1 a j (by omega) (by omega) (by omega) (by omega)]
          exact u2.V a j r
        · have fr2 : a ≠ 108 ∨ j < 256 → h2 a j = H1 a j := by
            intro hp
            apply fr a j
            · intro z; obtain ⟨z1, z2⟩ := z; subst z1; rw [prG_rel z2] at r; cases r
            · intro z; subst z; exact Bool.false_ne_true r
            · intro z; subst z; exact Bool.false_ne_true r
            · intro z; subst z; exact Bool.false_ne_true r
            · omega
            · omega
          by_cases zt : a = 108
          · subst zt
            rw [hH2, up_a (by omega), up_a (by omega), x3 j (by omega), up_a (by omega), fr2 (by omega), km _ (by omega)]
          · rw [y1 a j zt (by omega) (by omega), fr2 (Or.inl zt), km a (by omega)]
      have sz : H2 31 n = (ws.length : Nat) := by rw [yc _ (by omega)]; exact ks
      have inv := Inv_plan i.1.1 (n := n) (by omega) hn all (by rw [yc _ (by omega)]; exact kt) (by rw [hH2, up_i (by omega), up_a (by omega), x2 _ (by omega), up_s]) (by rw [yc _ (by omega)]; exact kc) (by rw [hH2, up_s]) (by rw [sz, hH2, up_a (by omega), up_s]) (by rw [sz]; omega) (fun k hk => by
        rw [sz] at hk
        have er : ∀ w, w < 4 → H2 (33 + n) (4 * k + w) = h1 37 (4 * k + w) := fun w hw => by rw [yc _ (by omega)]; exact kr _ (by omega)
        refine ⟨fun w hw => ?_, ?_⟩
        · rw [er w hw, hH2, up_a (by omega), up_a (by omega), show 64 * n + 4 * k + w = 64 * n + (4 * k + w) by omega, x4 _ (by omega), up_a (by omega), show 256 + (4 * k + w) = 256 + 4 * k + w by omega, rwL_eq ws (h2 108) (h1 37) 256 0 r2 m2 k (by omega) w hw, Nat.zero_add]
        · have ok := rwL_ok ws (h1 37) 0 p3 m2 k (by omega)
          unfold plOK at ok ⊢
          dsimp only at ok ⊢
          rw [er 0 (by omega), er 1 (by omega), er 2 (by omega), er 3 (by omega)]
          rw [Nat.zero_add] at ok
          exact ok)
      have eL : ∀ a j, relL a j = true → H2 a j = h a j := fun a j r => all a j (relL_B r) (fun z => by
        unfold coP at z
        rcases z with ⟨z1, z2⟩ | ⟨z1, z2⟩ | z1 | ⟨z1, z2⟩ | ⟨z1, z2⟩ | ⟨z1, z2⟩ | ⟨z1, z2⟩
        · subst z1; cases r
        · subst z1; rcases z2 with z2 | z2 <;> (subst z2; cases r)
        · have n4 : n = 0 ∨ n = 1 ∨ n = 2 ∨ n = 3 := by omega
          rcases n4 with rfl | rfl | rfl | rfl <;> (subst z1; cases r)
        · subst z1; cases r
        · subst z1; cases r
        · subst z1; cases r
        · subst z1; cases r)
      exact ⟨n, H1, H2, Ws, hd, hm, ⟨inv, InvL_c (fun a j r _ _ => eL a j r) i.1.2⟩, InvA_c eL i.2⟩
    · rw [if_pos hs] at hd
      exact (t_fail i hd u2 e2 e3 e4 e5 (Or.inr (Or.inr (Or.inr (by rw [if_neg (by omega), if_neg (by omega), if_pos rfl]; exact hs))))).E
