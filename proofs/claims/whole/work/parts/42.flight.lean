/-! flights: the laws' worth, where one comes -/
theorem Inv_Aim {b : Int} {g g2 : MH} (i : Inv0 b g) (e : ∀ a j, relB a j = true → a ≠ 38 → a ≠ 39 → g2 a j = g a j) : Inv0 b g2 := by
  obtain ⟨t1, t2, t3, t4, t5, t6, t7, t8⟩ := (Inv0_iff b g).mp i
  obtain ⟨l1, l2, l3, l4, l5, l6, l7⟩ := lg_n i
  have e1 : ∀ a, (∀ j, relB a j = true) → a ≠ 38 → a ≠ 39 → g2 a = g a := fun a h0 h1 h2 => funext fun j => e a j (h0 j) h1 h2
  have el : lgE g g2 := ⟨e _ _ rfl (by omega) (by omega), e _ _ rfl (by omega) (by omega)⟩
  refine (Inv0_iff b g2).mpr ⟨iTape_c ?_ ?_ ?_ ?_ t1, iDamp_c ?_ ?_ t2, iLg_c el ?_ ?_ ?_ ?_ ?_ ?_ ?_ ?_ t3, iNow_c el ?_ ?_ ?_ ?_ ?_ ?_ ?_ ?_ t4, iImg_c (Int.le_refl b) l4 l6 el ?_ ?_ ?_ ?_ ?_ t5, iGue_c el ?_ ?_ ?_ ?_ ?_ ?_ ?_ ?_ ?_ ?_ t6, iPl_c ?_ ?_ ?_ ?_ ?_ ?_ t7, iLw_c ?_ ?_ ?_ ?_ t8⟩
  all_goals first | (exact e _ _ rfl (by omega) (by omega)) | (exact e1 _ (fun _ => rfl) (by omega) (by omega)) | (intro j; exact e _ _ rfl (by omega) (by omega)) | skip
  · intro k hk
    exact e1 _ (fun j => rel_h j k hk) (by omega) (by omega)
  intro k hk
  exact e1 _ (fun j => rel_p j k hk) (by omega) (by omega)
/-- a law's worth by powder, weight, wind along, height, nerve, damp -/
abbrev WF : Type := Int → Int → Int → Int → Int → Int → Int
def LawC (W : WF) (code : Nat → Int) (sz : Int) : Prop := ∀ (d : Nat) (hc : MH) (r : Nat), r < 4 → hc 6 2 = r → (r : Int) < hc 6 1 → (∀ j : Nat, (j : Int) < sz → hc (25 + r) j = code j) → hc 29 r = sz → (∀ j, j < 6 → -1000 ≤ hc 23 j ∧ hc 23 j ≤ 1000) →
  ∃ hc2, Run (d + 2) 84 0 [vR 6, vU, vU, vU, vU, vU] [] hc = some (some (.inl (W (hc 23 0) (hc 23 1) (hc 23 2) (hc 23 3) (hc 23 4) (hc 23 5))), hc2) ∧ ∀ a, a ≠ 30 → hc2 a = hc a
/-- the fields that going through a text writes -/
def prF_ (j : Nat) : Prop := j = 5 ∨ j = 8 ∨ j = 9 ∨ j = 10 ∨ j = 11 ∨ j = 12 ∨ j = 13 ∨ j = 14 ∨ j = 17
def LawM (W : WF) (tx : Nat → Int) (tl : Int) : Prop := tl ≤ 240 ∧ ∀ (d : Nat) (hm : MH) (k : Int), 0 ≤ k → k < 4 → (∀ j : Nat, (j : Int) < tl → hm 99 (240 * k.toNat + j) = tx j) →
  ∃ hm2, Run (d + 32) 199 0 [vR 97, vR 99, .inl (240 * k), .inl tl] [] hm = some (none, hm2) ∧ hm2 97 14 = W (hm 101 112) (hm 101 109) (hm 101 119) (hm 101 104) (hm 101 110) (hm 101 100) ∧ ∀ a j, ¬ (a = 97 ∧ prF_ j) → hm2 a j = hm a j
def InvL (Ws : Nat → WF) (h : MH) : Prop := ∀ k : Nat, (k : Int) < h 6 1 → k < 4 → LawC (Ws k) (h (25 + k)) (h 29 k) ∧ LawM (Ws k) (fun j => h 99 (240 * k + j)) (h 100 k)
theorem rel_c (j : Nat) : ∀ k, k < 4 → relL (25 + k) j = true
  | 0, _ => rfl
  | 1, _ => rfl
  | 2, _ => rfl
  | 3, _ => rfl
  | k + 4, h => absurd h (by omega)
theorem InvL_c {Ws : Nat → WF} {h h2 : MH} (e : ∀ a j, relL a j = true → a ≠ 38 → a ≠ 39 → h2 a j = h a j) (i : InvL Ws h) : InvL Ws h2 := by
  intro k hk h4
  rw [e _ _ rfl (by omega) (by omega)] at hk
  obtain ⟨i1, i2⟩ := i k hk h4
  have e1 : h2 (25 + k) = h (25 + k) := funext fun j => e _ _ (rel_c j k h4) (by omega) (by omega)
  have e2 : (fun j => h2 99 (240 * k + j)) = fun j => h 99 (240 * k + j) := funext fun j => e _ _ rfl (by omega) (by omega)
  rw [e1, e2, e 29 k rfl (by omega) (by omega), e 100 k rfl (by omega) (by omega)]
  exact ⟨i1, i2⟩
/-- how far one flies -/
def rcF (W : Nat → WF) (lw : Int) (fo ca : Nat → Int) (c f p w dm : Int) : Int := mx 0 (mn 60 (if lw = -1 then (6 * p).tdiv (ca (3 * c).toNat) + fo (3 * f + 1).toNat + w - dm else W lw.toNat p (ca (3 * c).toNat) w (fo (3 * f + 1).toNat) (ca (3 * c + 1).toNat) dm))
theorem rcF_b (W : Nat → WF) (lw : Int) (fo ca : Nat → Int) (c f p w dm : Int) : 0 ≤ rcF W lw fo ca c f p w dm ∧ rcF W lw fo ca c f p w dm ≤ 60 := by
  unfold rcF mx mn
  split <;> split <;> omega
def alF (wd wy way : Int) : Int := if wy = way then wd else -wd
/-- the place that one comes to -/
def plF (W : Nat → WF) (lw : Int) (fo ca : Nat → Int) (c f p way wd wy dm : Int) : Int := if way = 0 then fo (3 * f).toNat + rcF W lw fo ca c f p (alF wd wy way) dm else fo (3 * f).toNat - rcF W lw fo ca c f p (alF wd wy way) dm
/-- all but the aims that are remembered -/
def InvB (b : Int) (Ws : Nat → WF) (h : MH) : Prop := Inv0 b h ∧ InvL Ws h
theorem InvB_c {b : Int} {Ws : Nat → WF} {h h2 : MH} (i : InvB b Ws h) (e : ∀ a j, relB a j = true → a ≠ 38 → a ≠ 39 → h2 a j = h a j) : InvB b Ws h2 := ⟨Inv_Aim i.1 e, InvL_c (fun a j r h1 h2 => e a j (relL_B r) h1 h2) i.2⟩
theorem Eqv.B {b : Int} {Ws : Nat → WF} {h h2 : MH} (e : Eqv h h2) (i : InvB b Ws h) : InvB b Ws h2 := InvB_c i (fun a j r _ _ => e a j r)
theorem lw_n {b : Int} {h : MH} (i : Inv0 b h) : h 97 7 = h 6 1 ∧ (0 ≤ h 6 1 ∧ h 6 1 ≤ 4) ∧ h 97 34 = h 6 2 ∧ (-1 ≤ h 6 2 ∧ h 6 2 < h 6 1) := ((Inv0_iff b h).mp i).2.2.2.2.2.2.2
/-- what is told of a carrier and a fort -/
theorem cf_n {b : Int} {h : MH} (i : Inv0 b h) {c f : Int} (hc0 : 0 ≤ c) (hc1 : c < h 2 4) (hf0 : 0 ≤ f) (hf1 : f < h 2 3) : ((1 ≤ h 18 (3 * c).toNat ∧ h 18 (3 * c).toNat ≤ 9) ∧ (0 ≤ h 18 (3 * c + 1).toNat ∧ h 18 (3 * c + 1).toNat ≤ 9)) ∧ ((0 ≤ h 17 (3 * f).toNat ∧ h 17 (3 * f).toNat ≤ 40) ∧ (0 ≤ h 17 (3 * f + 1).toNat ∧ h 17 (3 * f + 1).toNat ≤ 9)) ∧ c < 5 ∧ f < 8 := by
  obtain ⟨l1, l2, l3, l4, l5, l6, l7⟩ := lg_n i
  obtain ⟨-, -, -, k1, -, k2⟩ := lg_ok i (by omega)
  have a := k2 c.toNat (by omega)
  have b := k1 f.toNat (by omega)
  rw [show (3 * c).toNat = 3 * c.toNat by omega, show (3 * c + 1).toNat = 3 * c.toNat + 1 by omega, show (3 * f).toNat = 3 * f.toNat by omega, show (3 * f + 1).toNat = 3 * f.toNat + 1 by omega]
  exact ⟨⟨a.1, a.2.1⟩, ⟨b.1, b.2.1⟩, by omega, by omega⟩
theorem div_b {p w : Int} (h0 : 0 ≤ p) (h1 : p ≤ 20) (hw : 1 ≤ w) : 0 ≤ (6 * p).tdiv w ∧ (6 * p).tdiv w ≤ 120 := by
  rw [Int.tdiv_eq_ediv_of_nonneg (by omega)]
  refine ⟨Int.ediv_nonneg (by omega) (by omega), ?_⟩
  exact Int.le_trans (Int.ediv_le_self _ (by omega)) (by omega)
/-- what flights hang on -/
def InvF (Ws : Nat → WF) (h : MH) : Prop := iLg h ∧ iLw h ∧ InvL Ws h
theorem InvB.F {b : Int} {Ws : Nat → WF} {h : MH} (i : InvB b Ws h) : InvF Ws h := ⟨((Inv0_iff b h).mp i.1).2.2.1, ((Inv0_iff b h).mp i.1).2.2.2.2.2.2.2, i.2⟩
theorem lgL {h : MH} (i : iLg h) : lgN h := by
  obtain ⟨e1, e2, e3, -⟩ := i
  refine ⟨e1, e2, ?_⟩
  rcases e3 with ⟨q1, q2⟩ | ⟨q1, q2, -⟩ <;> omega
theorem okL_ {h : MH} (i : iLg h) (q : h 2 3 ≠ 0) : lgOK (h 2 3) (h 2 4) (h 16) (h 17) (h 18) := by
  obtain ⟨e1, e2, e3, -⟩ := i
  rcases e3 with ⟨q1, q2⟩ | q1
  · exact absurd q1 q
  · exact q1
theorem lfL {h : MH} (i : iLg h) (x : Int) (h0 : 0 ≤ x) (h1 : x < 3 * h 2 3) : h 104 x.toNat = h 17 x.toNat := i.2.2.2.2.1 x.toNat (by omega)
theorem lcL {h : MH} (i : iLg h) (x : Int) (h0 : 0 ≤ x) (h1 : x < 3 * h 2 4) : h 106 x.toNat = h 18 x.toNat := i.2.2.2.2.2 x.toNat (by omega)
theorem cfL {h : MH} (i : iLg h) {c f : Int} (hc0 : 0 ≤ c) (hc1 : c < h 2 4) (hf0 : 0 ≤ f) (hf1 : f < h 2 3) : ((1 ≤ h 18 (3 * c).toNat ∧ h 18 (3 * c).toNat ≤ 9) ∧ (0 ≤ h 18 (3 * c + 1).toNat ∧ h 18 (3 * c + 1).toNat ≤ 9)) ∧ ((0 ≤ h 17 (3 * f).toNat ∧ h 17 (3 * f).toNat ≤ 40) ∧ (0 ≤ h 17 (3 * f + 1).toNat ∧ h 17 (3 * f + 1).toNat ≤ 9)) ∧ c < 5 ∧ f < 8 := by
  obtain ⟨l1, l2, l3, l4, l5, l6, l7⟩ := lgL i
  obtain ⟨-, -, -, k1, -, k2⟩ := okL_ i (by omega)
  have a := k2 c.toNat (by omega)
  have b := k1 f.toNat (by omega)
  rw [show (3 * c).toNat = 3 * c.toNat by omega, show (3 * c + 1).toNat = 3 * c.toNat + 1 by omega, show (3 * f).toNat = 3 * f.toNat by omega, show (3 * f + 1).toNat = 3 * f.toNat + 1 by omega]
  exact ⟨⟨a.1, a.2.1⟩, ⟨b.1, b.2.1⟩, by omega, by omega⟩
theorem e_reachF {Ws : Nat → WF} {h : MH} (i : InvF Ws h) (d : Nat) {c f p w dm : Int} (hc0 : 0 ≤ c) (hc1 : c < h 2 4) (hf0 : 0 ≤ f) (hf1 : f < h 2 3) (hp0 : 1 ≤ p) (hp1 : p ≤ 20) (hw0 : -20 ≤ w) (hw1 : w ≤ 20) (hd0 : 0 ≤ dm) (hd1 : dm ≤ 9) :
    ∃ h1, Run (d + 3) 81 0 [vR 8, .inl c, .inl f, .inl p, .inl w, .inl dm, vU, vU, vU] [] h = some (some (.inl (rcF Ws (h 6 2) (h 17) (h 18) c f p w dm)), h1) ∧ ∀ a, a ≠ 23 → a ≠ 30 → h1 a = h a := by
  obtain ⟨⟨n1, n2⟩, ⟨n3, n4⟩, n5, n6⟩ := cfL i.1 hc0 hc1 hf0 hf1
  obtain ⟨w1, w2, w3, w4⟩ := i.2.1
  have db := div_b (p := p) (by omega) hp1 n1.1
  by_cases q : h 6 2 = -1
  · refine ⟨h, ?_, fun _ _ _ => rfl⟩
    rw [q81_0, e_weight _ _ _ hc0 n5, cI_some, e_height _ _ _ hf0 n6, cI_some, if_neg (fun z => z q), if_pos (by omega), if_neg (by omega)]
    unfold rcF
    rw [if_pos q]
    simp (disch := omega) only [wI_ok]
  · obtain ⟨L, -⟩ := i.2.2 (h 6 2).toNat (by omega) (by omega)
    obtain ⟨h2, r1, r2⟩ := L d (up (up (up (up (up (up h 23 0 p) 23 1 (h 18 (3 * c).toNat)) 23 2 w) 23 3 (h 17 (3 * f + 1).toNat)) 23 4 (h 18 (3 * c + 1).toNat)) 23 5 dm) (h 6 2).toNat (by omega) (by simp only [up_s, up_a, up_i, ne_eq, Nat.reduceEqDiff, not_false_eq_true]; omega) (by simp only [up_s, up_a, up_i, ne_eq, Nat.reduceEqDiff, not_false_eq_true]; omega) (fun j hj => by rw [up_a (by omega), up_a (by omega), up_a (by omega), up_a (by omega), up_a (by omega), up_a (by omega)]) (by simp only [up_s, up_a, up_i, ne_eq, Nat.reduceEqDiff, not_false_eq_true]) (fun j hj => by
        rcases (show j = 0 ∨ j = 1 ∨ j = 2 ∨ j = 3 ∨ j = 4 ∨ j = 5 by omega) with rfl | rfl | rfl | rfl | rfl | rfl <;> (simp only [up_s, up_a, up_i, ne_eq, Nat.reduceEqDiff, not_false_eq_true]; omega))
    refine ⟨h2, ?_, fun a h1 h3 => ?_⟩
    · rw [q81_0, e_weight _ _ _ hc0 n5, cI_some, e_height _ _ _ hf0 n6, cI_some, if_pos q, e_nerve _ _ _ hc0 n5, cI_some]
      simp only [up_s, up_a, up_i, ne_eq, Nat.reduceEqDiff, not_false_eq_true]
      rw [r1, cI_some]
      simp only [up_s, up_a, up_i, ne_eq, Nat.reduceEqDiff, not_false_eq_true]
      unfold rcF
      rw [if_neg q]
    · rw [r2 a h3, up_ne h1, up_ne h1, up_ne h1, up_ne h1, up_ne h1, up_ne h1]
theorem m_reachF {Ws : Nat → WF} {h : MH} (i : InvF Ws h) (d : Nat) {c f p w dm : Int} (hc0 : 0 ≤ c) (hc1 : c < h 2 4) (hf0 : 0 ≤ f) (hf1 : f < h 2 3) (hp0 : 1 ≤ p) (hp1 : p ≤ 20) (hw0 : -20 ≤ w) (hw1 : w ≤ 20) (hd0 : 0 ≤ dm) (hd1 : dm ≤ 9) :
    ∃ h1, Run (d + 33) 233 0 [vR 97, .inl c, .inl f, .inl p, .inl w, .inl dm, vU] [] h = some (some (.inl (rcF Ws (h 6 2) (h 17) (h 18) c f p w dm)), h1) ∧ ∀ a j, ¬ (a = 97 ∧ prF_ j) → a ≠ 101 → h1 a j = h a j := by
  obtain ⟨⟨n1, n2⟩, ⟨n3, n4⟩, n5, n6⟩ := cfL i.1 hc0 hc1 hf0 hf1
  obtain ⟨w1, w2, w3, w4⟩ := i.2.1
  have db := div_b (p := p) (by omega) hp1 n1.1
  have g1 := lcL i.1 (3 * c) (by omega) (by omega)
  have g2 := lcL i.1 (3 * c + 1) (by omega) (by omega)
  have g3 := lfL i.1 (3 * f + 1) (by omega) (by omega)
  by_cases q : h 6 2 = -1
  · refine ⟨h, ?_, fun _ _ _ _ => rfl⟩
    rw [q233_0, m_told _ _ _ _ hc0 n5 (by omega) (by omega), cI_some, Int.add_zero, g1, if_neg (by omega), w3, if_pos (c := 0 ≤ wI _ ∧ _) (by rw [wI_ok (x := 3 * f) (by omega) (by omega), wI_ok (by omega) (by omega)]; omega), if_pos q]
    unfold rcF
    rw [if_pos q]
    simp (disch := omega) only [wI_ok, g3]
  · obtain ⟨-, -, L⟩ := i.2.2 (h 6 2).toNat (by omega) (by omega)
    obtain ⟨h2, r1, r2, r3⟩ := L d (up (up (up (up (up (up h 101 112 p) 101 109 (h 18 (3 * c).toNat)) 101 119 w) 101 104 (h 17 (3 * f + 1).toNat)) 101 110 (h 18 (3 * c + 1).toNat)) 101 100 dm) (h 6 2) (by omega) (by omega) (fun j hj => by rw [up_a (by omega), up_a (by omega), up_a (by omega), up_a (by omega), up_a (by omega), up_a (by omega)])
    refine ⟨h2, ?_, fun a j h1 h3 => ?_⟩
    · rw [q233_0, m_told _ _ _ _ hc0 n5 (by omega) (by omega), cI_some, Int.add_zero, g1, if_neg (by omega), if_pos (c := 0 ≤ wI _ ∧ _) (by rw [wI_ok (x := 3 * f) (by omega) (by omega), wI_ok (by omega) (by omega)]; omega), w3, if_neg q, m_told _ _ _ _ hc0 n5 (by omega) (by omega), cI_some, Int.add_zero, up_a (by omega), g1, if_pos (c := 0 ≤ wI _ ∧ _) (by rw [wI_ok (x := 3 * f) (by omega) (by omega), wI_ok (by omega) (by omega)]; omega), m_told _ _ _ _ hc0 n5 (by omega) (by omega), cI_some]
      simp only [up_s, up_a, up_i, ne_eq, Nat.reduceEqDiff, not_false_eq_true]
      rw [g2, wI_ok (x := 3 * f) (by omega) (by omega), wI_ok (x := 3 * f + 1) (by omega) (by omega), g3, w3, if_pos (by omega), wI_ok (x := 240 * _) (by omega) (by omega), r1, cV_some, r2]
      simp only [up_s, up_a, up_i, ne_eq, Nat.reduceEqDiff, not_false_eq_true]
      unfold rcF
      rw [if_neg q]
    · rw [r3 a j h1, up_a h3, up_a h3, up_a h3, up_a h3, up_a h3, up_a h3]
theorem e_reach {b : Int} {Ws : Nat → WF} {h : MH} (i : InvB b Ws h) (d : Nat) {c f p w dm : Int} (hc0 : 0 ≤ c) (hc1 : c < h 2 4) (hf0 : 0 ≤ f) (hf1 : f < h 2 3) (hp0 : 1 ≤ p) (hp1 : p ≤ 20) (hw0 : -20 ≤ w) (hw1 : w ≤ 20) (hd0 : 0 ≤ dm) (hd1 : dm ≤ 9) :
    ∃ h1, Run (d + 3) 81 0 [vR 8, .inl c, .inl f, .inl p, .inl w, .inl dm, vU, vU, vU] [] h = some (some (.inl (rcF Ws (h 6 2) (h 17) (h 18) c f p w dm)), h1) ∧ ∀ a, a ≠ 23 → a ≠ 30 → h1 a = h a := e_reachF i.F d hc0 hc1 hf0 hf1 hp0 hp1 hw0 hw1 hd0 hd1
theorem m_reach {b : Int} {Ws : Nat → WF} {h : MH} (i : InvB b Ws h) (d : Nat) {c f p w dm : Int} (hc0 : 0 ≤ c) (hc1 : c < h 2 4) (hf0 : 0 ≤ f) (hf1 : f < h 2 3) (hp0 : 1 ≤ p) (hp1 : p ≤ 20) (hw0 : -20 ≤ w) (hw1 : w ≤ 20) (hd0 : 0 ≤ dm) (hd1 : dm ≤ 9) :
    ∃ h1, Run (d + 33) 233 0 [vR 97, .inl c, .inl f, .inl p, .inl w, .inl dm, vU] [] h = some (some (.inl (rcF Ws (h 6 2) (h 17) (h 18) c f p w dm)), h1) ∧ ∀ a j, ¬ (a = 97 ∧ prF_ j) → a ≠ 101 → h1 a j = h a j := m_reachF i.F d hc0 hc1 hf0 hf1 hp0 hp1 hw0 hw1 hd0 hd1
theorem pr_rel {a j : Nat} (h : a = 97 ∧ prF_ j) : relB a j = false := by
  obtain ⟨rfl, h⟩ := h
  unfold prF_ at h
  rcases h with rfl | rfl | rfl | rfl | rfl | rfl | rfl | rfl | rfl <;> rfl
theorem Eqv_pr {h h1 : MH} (e : ∀ a j, ¬ (a = 97 ∧ prF_ j) → a ≠ 101 → h1 a j = h a j) : Eqv h h1 := by
  intro a j r
  apply e a j
  · intro z; rw [pr_rel z] at r; cases r
  · intro z; subst z; exact Bool.false_ne_true r
theorem Eqv_ll {h h1 : MH} (e : ∀ a, a ≠ 23 → a ≠ 30 → h1 a = h a) : Eqv h h1 := by
  intro a j r
  rw [e a (fun z => by subst z; exact Bool.false_ne_true r) (fun z => by subst z; exact Bool.false_ne_true r)]
theorem al_b {wd wy way : Int} (h0 : 0 ≤ wd) (h1 : wd ≤ 12) : -20 ≤ alF wd wy way ∧ alF wd wy way ≤ 20 := by unfold alF; split <;> omega
theorem e_along (d : Nat) (wd wy way : Int) (h : MH) (h0 : 0 ≤ wd) (h1 : wd ≤ 12) : Run d 80 0 [.inl wd, .inl wy, .inl way] [] h = some (some (.inl (alF wd wy way)), h) := by
  rw [q80_0]
  unfold alF
  by_cases q : wy = way
  · rw [if_neg (fun z => z q), if_pos q]
  · rw [if_pos q, if_neg q, wI_ok (by omega) (by omega)]
theorem e_comeTo (d : Nat) (pl r way : Int) (h : MH) (h0 : -1000 ≤ pl) (h1 : pl ≤ 1000) (h2 : 0 ≤ r) (h3 : r ≤ 60) : Run d 86 0 [.inl pl, .inl r, .inl way] [] h = some (some (.inl (if way = 0 then pl + r else pl - r)), h) := by
  rw [q86_0]
  by_cases q : way = 0
  · rw [if_neg (fun z => z q), if_pos q, wI_ok (by omega) (by omega)]
  · rw [if_pos q, if_neg q, wI_ok (by omega) (by omega)]
theorem m_placeByF {Ws : Nat → WF} {h : MH} (i : InvF Ws h) (d : Nat) {c f p way wd wy dm : Int} (hc0 : 0 ≤ c) (hc1 : c < h 2 4) (hf0 : 0 ≤ f) (hf1 : f < h 2 3) (hp0 : 1 ≤ p) (hp1 : p ≤ 20) (hw0 : 0 ≤ wd) (hw1 : wd ≤ 12) (hd0 : 0 ≤ dm) (hd1 : dm ≤ 9) :
    ∃ h1, Run (d + 34) 232 0 [vR 97, .inl c, .inl f, .inl p, .inl way, .inl wd, .inl wy, .inl dm, vU] [] h = some (some (.inl (plF Ws (h 6 2) (h 17) (h 18) c f p way wd wy dm)), h1) ∧ ∀ a j, ¬ (a = 97 ∧ prF_ j) → a ≠ 101 → h1 a j = h a j := by
  obtain ⟨⟨n1, n2⟩, ⟨n3, n4⟩, n5, n6⟩ := cfL i.1 hc0 hc1 hf0 hf1
  have g3 := lfL i.1 (3 * f) (by omega) (by omega)
  have hb := rcF_b Ws (h 6 2) (h 17) (h 18) c f p (alF wd wy way) dm
  have ha := al_b (wd := wd) (wy := wy) (way := way) hw0 hw1
  obtain ⟨h1, r1, r2⟩ := m_reachF i d hc0 hc1 hf0 hf1 hp0 hp1 ha.1 ha.2 hd0 hd1
  refine ⟨h1, ?_, r2⟩
  rw [q232_0]
  unfold plF
  unfold alF at r1 hb ⊢
  by_cases q : wy = way
  · rw [if_neg (fun z => z q)]
    simp only [if_pos q] at r1 hb ⊢
    rw [r1, cI_some, m_place _ _ _ hf0 n6, cI_some, r2 _ _ (by omega) (by omega), g3]
    by_cases q2 : way = 0
    · rw [if_neg (fun z => z q2), if_pos q2, wI_ok (by omega) (by omega)]
    · rw [if_pos q2, if_neg q2, wI_ok (x := - _) (by omega) (by omega), wI_ok (by omega) (by omega)]
      congr 4
  · rw [if_pos q, wI_ok (x := -wd) (by omega) (by omega)]
    simp only [if_neg q] at r1 hb ⊢
    rw [r1, cI_some, m_place _ _ _ hf0 n6, cI_some, r2 _ _ (by omega) (by omega), g3]
    by_cases q2 : way = 0
    · rw [if_neg (fun z => z q2), if_pos q2, wI_ok (by omega) (by omega)]
    · rw [if_pos q2, if_neg q2, wI_ok (x := - _) (by omega) (by omega), wI_ok (by omega) (by omega)]
      congr 4
theorem plF_bF {Ws : Nat → WF} {h : MH} (i : InvF Ws h) {c f p way wd wy dm : Int} (hc0 : 0 ≤ c) (hc1 : c < h 2 4) (hf0 : 0 ≤ f) (hf1 : f < h 2 3) : -100 ≤ plF Ws (h 6 2) (h 17) (h 18) c f p way wd wy dm ∧ plF Ws (h 6 2) (h 17) (h 18) c f p way wd wy dm ≤ 100 := by
  obtain ⟨-, ⟨n3, n4⟩, n5, n6⟩ := cfL i.1 hc0 hc1 hf0 hf1
  have hb := rcF_b Ws (h 6 2) (h 17) (h 18) c f p (alF wd wy way) dm
  unfold plF
  split <;> omega
theorem m_placeBy {b : Int} {Ws : Nat → WF} {h : MH} (i : InvB b Ws h) (d : Nat) {c f p way wd wy dm : Int} (hc0 : 0 ≤ c) (hc1 : c < h 2 4) (hf0 : 0 ≤ f) (hf1 : f < h 2 3) (hp0 : 1 ≤ p) (hp1 : p ≤ 20) (hw0 : 0 ≤ wd) (hw1 : wd ≤ 12) (hd0 : 0 ≤ dm) (hd1 : dm ≤ 9) :
    ∃ h1, Run (d + 34) 232 0 [vR 97, .inl c, .inl f, .inl p, .inl way, .inl wd, .inl wy, .inl dm, vU] [] h = some (some (.inl (plF Ws (h 6 2) (h 17) (h 18) c f p way wd wy dm)), h1) ∧ ∀ a j, ¬ (a = 97 ∧ prF_ j) → a ≠ 101 → h1 a j = h a j := m_placeByF i.F d hc0 hc1 hf0 hf1 hp0 hp1 hw0 hw1 hd0 hd1
theorem plF_b {b : Int} {Ws : Nat → WF} {h : MH} (i : InvB b Ws h) {c f p way wd wy dm : Int} (hc0 : 0 ≤ c) (hc1 : c < h 2 4) (hf0 : 0 ≤ f) (hf1 : f < h 2 3) : -100 ≤ plF Ws (h 6 2) (h 17) (h 18) c f p way wd wy dm ∧ plF Ws (h 6 2) (h 17) (h 18) c f p way wd wy dm ≤ 100 := plF_bF i.F hc0 hc1 hf0 hf1
theorem e_comesToF {Ws : Nat → WF} {h : MH} (i : InvF Ws h) (d : Nat) {c f p way : Int} (hc0 : 0 ≤ c) (hc1 : c < h 2 4) (hf0 : 0 ≤ f) (hf1 : f < h 2 3) (hp0 : 1 ≤ p) (hp1 : p ≤ 20) (hw0 : 0 ≤ h 91 1) (hw1 : h 91 1 ≤ 12) (hd0 : 0 ≤ h 91 3) (hd1 : h 91 3 ≤ 9) :
    ∃ h1, Run (d + 4) 79 0 [vR 8, vR 12, .inl c, .inl f, .inl p, .inl way, vU, vU] [] h = some (some (.inl (plF Ws (h 6 2) (h 17) (h 18) c f p way (h 91 1) (h 91 2) (h 91 3))), h1) ∧ ∀ a, a ≠ 23 → a ≠ 30 → h1 a = h a := by
  obtain ⟨⟨n1, n2⟩, ⟨n3, n4⟩, n5, n6⟩ := cfL i.1 hc0 hc1 hf0 hf1
  have hb := rcF_b Ws (h 6 2) (h 17) (h 18) c f p (alF (h 91 1) (h 91 2) way) (h 91 3)
  have ha := al_b (wy := h 91 2) (way := way) hw0 hw1
  obtain ⟨h1, r1, r2⟩ := e_reachF i d hc0 hc1 hf0 hf1 hp0 hp1 ha.1 ha.2 hd0 hd1
  refine ⟨h1, ?_, r2⟩
  rw [q79_0, e_along _ _ _ _ _ hw0 hw1, cI_some, r1, cI_some, e_place _ _ _ hf0 n6, cI_some, r2 _ (by omega) (by omega), e_comeTo _ _ _ _ _ (by omega) (by omega) hb.1 hb.2, cI_some]
  rfl
theorem m_comesToF {Ws : Nat → WF} {h : MH} (i : InvF Ws h) (d : Nat) {c f p way : Int} (hc0 : 0 ≤ c) (hc1 : c < h 2 4) (hf0 : 0 ≤ f) (hf1 : f < h 2 3) (hp0 : 1 ≤ p) (hp1 : p ≤ 20) (hw0 : 0 ≤ h 110 32) (hw1 : h 110 32 ≤ 12) (hd0 : 0 ≤ h 110 34) (hd1 : h 110 34 ≤ 9) :
    ∃ h1, Run (d + 35) 231 0 [vR 97, vR 110, .inl c, .inl f, .inl p, .inl way] [] h = some (some (.inl (plF Ws (h 6 2) (h 17) (h 18) c f p way (h 110 32) (h 110 33) (h 110 34))), h1) ∧ ∀ a j, ¬ (a = 97 ∧ prF_ j) → a ≠ 101 → h1 a j = h a j := by
  obtain ⟨h1, r1, r2⟩ := m_placeByF i d (way := way) (wy := h 110 33) hc0 hc1 hf0 hf1 hp0 hp1 hw0 hw1 hd0 hd1
  refine ⟨h1, ?_, r2⟩
  rw [q231_0, r1, cI_some]
theorem e_comesTo {b : Int} {Ws : Nat → WF} {h : MH} (i : InvB b Ws h) (d : Nat) {c f p way : Int} (hc0 : 0 ≤ c) (hc1 : c < h 2 4) (hf0 : 0 ≤ f) (hf1 : f < h 2 3) (hp0 : 1 ≤ p) (hp1 : p ≤ 20) (hw0 : 0 ≤ h 91 1) (hw1 : h 91 1 ≤ 12) (hd0 : 0 ≤ h 91 3) (hd1 : h 91 3 ≤ 9) :
    ∃ h1, Run (d + 4) 79 0 [vR 8, vR 12, .inl c, .inl f, .inl p, .inl way, vU, vU] [] h = some (some (.inl (plF Ws (h 6 2) (h 17) (h 18) c f p way (h 91 1) (h 91 2) (h 91 3))), h1) ∧ ∀ a, a ≠ 23 → a ≠ 30 → h1 a = h a := e_comesToF i.F d hc0 hc1 hf0 hf1 hp0 hp1 hw0 hw1 hd0 hd1
theorem m_comesTo {b : Int} {Ws : Nat → WF} {h : MH} (i : InvB b Ws h) (d : Nat) {c f p way : Int} (hc0 : 0 ≤ c) (hc1 : c < h 2 4) (hf0 : 0 ≤ f) (hf1 : f < h 2 3) (hp0 : 1 ≤ p) (hp1 : p ≤ 20) (hw0 : 0 ≤ h 110 32) (hw1 : h 110 32 ≤ 12) (hd0 : 0 ≤ h 110 34) (hd1 : h 110 34 ≤ 9) :
    ∃ h1, Run (d + 35) 231 0 [vR 97, vR 110, .inl c, .inl f, .inl p, .inl way] [] h = some (some (.inl (plF Ws (h 6 2) (h 17) (h 18) c f p way (h 110 32) (h 110 33) (h 110 34))), h1) ∧ ∀ a j, ¬ (a = 97 ∧ prF_ j) → a ≠ 101 → h1 a j = h a j := m_comesToF i.F d hc0 hc1 hf0 hf1 hp0 hp1 hw0 hw1 hd0 hd1
theorem e_comesToTF {Ws : Nat → WF} {h : MH} (i : InvF Ws h) (d : Nat) {c f p way : Int} (hc0 : 0 ≤ c) (hc1 : c < h 2 4) (hf0 : 0 ≤ f) (hf1 : f < h 2 3) (hp0 : 1 ≤ p) (hp1 : p ≤ 20) (hw0 : 0 ≤ h 93 1) (hw1 : h 93 1 ≤ 12) (hd0 : 0 ≤ h 93 3) (hd1 : h 93 3 ≤ 9) :
    ∃ h1, Run (d + 4) 79 0 [vR 8, vR 13, .inl c, .inl f, .inl p, .inl way, vU, vU] [] h = some (some (.inl (plF Ws (h 6 2) (h 17) (h 18) c f p way (h 93 1) (h 93 2) (h 93 3))), h1) ∧ ∀ a, a ≠ 23 → a ≠ 30 → h1 a = h a := by
  obtain ⟨⟨n1, n2⟩, ⟨n3, n4⟩, n5, n6⟩ := cfL i.1 hc0 hc1 hf0 hf1
  have hb := rcF_b Ws (h 6 2) (h 17) (h 18) c f p (alF (h 93 1) (h 93 2) way) (h 93 3)
  have ha := al_b (wy := h 93 2) (way := way) hw0 hw1
  obtain ⟨h1, r1, r2⟩ := e_reachF i d hc0 hc1 hf0 hf1 hp0 hp1 ha.1 ha.2 hd0 hd1
  refine ⟨h1, ?_, r2⟩
  rw [q79_0_1, e_along _ _ _ _ _ hw0 hw1, cI_some, r1, cI_some, e_place _ _ _ hf0 n6, cI_some, r2 _ (by omega) (by omega), e_comeTo _ _ _ _ _ (by omega) (by omega) hb.1 hb.2, cI_some]
  rfl
theorem m_comesToTF {Ws : Nat → WF} {h : MH} (i : InvF Ws h) (d : Nat) {c f p way : Int} (hc0 : 0 ≤ c) (hc1 : c < h 2 4) (hf0 : 0 ≤ f) (hf1 : f < h 2 3) (hp0 : 1 ≤ p) (hp1 : p ≤ 20) (hw0 : 0 ≤ h 111 32) (hw1 : h 111 32 ≤ 12) (hd0 : 0 ≤ h 111 34) (hd1 : h 111 34 ≤ 9) :
    ∃ h1, Run (d + 35) 231 0 [vR 97, vR 111, .inl c, .inl f, .inl p, .inl way] [] h = some (some (.inl (plF Ws (h 6 2) (h 17) (h 18) c f p way (h 111 32) (h 111 33) (h 111 34))), h1) ∧ ∀ a j, ¬ (a = 97 ∧ prF_ j) → a ≠ 101 → h1 a j = h a j := by
  obtain ⟨h1, r1, r2⟩ := m_placeByF i d (way := way) (wy := h 111 33) hc0 hc1 hf0 hf1 hp0 hp1 hw0 hw1 hd0 hd1
  refine ⟨h1, ?_, r2⟩
  rw [q231_0_1, r1, cI_some]
theorem e_comesToT {b : Int} {Ws : Nat → WF} {h : MH} (i : InvB b Ws h) (d : Nat) {c f p way : Int} (hc0 : 0 ≤ c) (hc1 : c < h 2 4) (hf0 : 0 ≤ f) (hf1 : f < h 2 3) (hp0 : 1 ≤ p) (hp1 : p ≤ 20) (hw0 : 0 ≤ h 93 1) (hw1 : h 93 1 ≤ 12) (hd0 : 0 ≤ h 93 3) (hd1 : h 93 3 ≤ 9) :
    ∃ h1, Run (d + 4) 79 0 [vR 8, vR 13, .inl c, .inl f, .inl p, .inl way, vU, vU] [] h = some (some (.inl (plF Ws (h 6 2) (h 17) (h 18) c f p way (h 93 1) (h 93 2) (h 93 3))), h1) ∧ ∀ a, a ≠ 23 → a ≠ 30 → h1 a = h a := e_comesToTF i.F d hc0 hc1 hf0 hf1 hp0 hp1 hw0 hw1 hd0 hd1
theorem m_comesToT {b : Int} {Ws : Nat → WF} {h : MH} (i : InvB b Ws h) (d : Nat) {c f p way : Int} (hc0 : 0 ≤ c) (hc1 : c < h 2 4) (hf0 : 0 ≤ f) (hf1 : f < h 2 3) (hp0 : 1 ≤ p) (hp1 : p ≤ 20) (hw0 : 0 ≤ h 111 32) (hw1 : h 111 32 ≤ 12) (hd0 : 0 ≤ h 111 34) (hd1 : h 111 34 ≤ 9) :
    ∃ h1, Run (d + 35) 231 0 [vR 97, vR 111, .inl c, .inl f, .inl p, .inl way] [] h = some (some (.inl (plF Ws (h 6 2) (h 17) (h 18) c f p way (h 111 32) (h 111 33) (h 111 34))), h1) ∧ ∀ a j, ¬ (a = 97 ∧ prF_ j) → a ≠ 101 → h1 a j = h a j := m_comesToTF i.F d hc0 hc1 hf0 hf1 hp0 hp1 hw0 hw1 hd0 hd1
/-! where one lands -/
def ldG (fo : Nat → Int) (pl : Int) : Nat → Int → Int
  | 0, b => b
  | k + 1, b => if fo (3 * k) = pl then k else ldG fo pl k (if fo (3 * k) - pl = 1 ∨ fo (3 * k) - pl = -1 then k else b)
def ldF (fo : Nat → Int) (n pl : Int) : Int := ldG fo pl n.toNat (-1)
theorem ldG_spec (fo : Nat → Int) (pl : Int) : ∀ (n : Nat) (b : Int), (∃ f : Nat, f < n ∧ fo (3 * f) = pl ∧ ldG fo pl n b = f) ∨ ((∀ f : Nat, f < n → fo (3 * f) ≠ pl) ∧ ((∃ f : Nat, f < n ∧ (fo (3 * f) - pl = 1 ∨ fo (3 * f) - pl = -1) ∧ ldG fo pl n b = f ∧ ∀ g : Nat, g < f → ¬ (fo (3 * g) - pl = 1 ∨ fo (3 * g) - pl = -1)) ∨ ((∀ g : Nat, g < n → ¬ (fo (3 * g) - pl = 1 ∨ fo (3 * g) - pl = -1)) ∧ ldG fo pl n b = b)))
  | 0, b => Or.inr ⟨fun f hf => absurd hf (Nat.not_lt_zero f), Or.inr ⟨fun f hf => absurd hf (Nat.not_lt_zero f), rfl⟩⟩
  | k + 1, b => by
    unfold ldG
    by_cases q : fo (3 * k) = pl
    · rw [if_pos q]
      exact Or.inl ⟨k, by omega, q, rfl⟩
    · rw [if_neg q]
      rcases ldG_spec fo pl k (if fo (3 * k) - pl = 1 ∨ fo (3 * k) - pl = -1 then k else b) with ⟨f, h1, h2, h3⟩ | ⟨h1, h2⟩
      · exact Or.inl ⟨f, by omega, h2, h3⟩
      · have h1' : ∀ f : Nat, f < k + 1 → fo (3 * f) ≠ pl := by
          intro f hf
          by_cases z : f = k
          · rw [z]; exact q
          · exact h1 f (by omega)
        refine Or.inr ⟨h1', ?_⟩
        rcases h2 with ⟨f, h3, h4, h5, h6⟩ | ⟨h3, h4⟩
        · exact Or.inl ⟨f, by omega, h4, h5, h6⟩
        · by_cases q2 : fo (3 * k) - pl = 1 ∨ fo (3 * k) - pl = -1
          · rw [if_pos q2] at h4
            exact Or.inl ⟨k, by omega, q2, by rw [if_pos q2]; exact h4, fun g hg => h3 g hg⟩
          · rw [if_neg q2] at h4
            refine Or.inr ⟨fun g hg => ?_, by rw [if_neg q2]; exact h4⟩
            by_cases z : g = k
            · rw [z]; exact q2
            · exact h3 g (by omega)
theorem ldF_b (fo : Nat → Int) (n pl : Int) (hn : 0 ≤ n) : -1 ≤ ldF fo n pl ∧ ldF fo n pl < n ∨ ldF fo n pl = -1 := by
  unfold ldF
  rcases ldG_spec fo pl n.toNat (-1) with ⟨f, h1, h2, h3⟩ | ⟨h1, ⟨f, h3, h4, h5, h6⟩ | ⟨h3, h4⟩⟩ <;> omega
theorem e_fortNear (d : Nat) (pl : Int) (h : MH) (h0 : 0 ≤ h 2 3) (h8 : h 2 3 ≤ 8) (hp : -1000 ≤ pl ∧ pl ≤ 1000) (hf : ∀ f : Nat, (f : Int) < h 2 3 → 0 ≤ h 17 (3 * f) ∧ h 17 (3 * f) ≤ 40) : Run (d + 1) 87 0 [vR 2, .inl pl, vU, vU, vU] [] h = some (some (.inl (ldF (h 17) (h 2 3) pl)), h) := by
  have key : ∀ (k : Nat) (b : Int) (z : MV), cat z = 1 → (k : Int) ≤ h 2 3 → Run (d + 1) 87 9 [vR 2, .inl pl, .inl b, .inl ((k : Int) - 1), z] [] h = some (some (.inl (ldG (h 17) pl k b)), h) := by
    intro k
    induction k with
    | zero =>
      intro b z hz hk
      rw [q87_9 (hz3 := hz), if_pos (by omega)]
      rfl
    | succ k ih =>
      intro b z hz hk
      have f1 := hf k (by omega)
      have e1 : wI (((k + 1 : Nat) : Int) - 1 + -1) = (k : Int) - 1 := by rw [wI_ok (by omega) (by omega)]; omega
      have e2 : ((k + 1 : Nat) : Int) - 1 = k := by omega
      rw [q87_9 (hz3 := hz), if_neg (by omega), e1, e2, e_place _ _ _ (by omega) (by omega), cI_some, show (3 * (k : Int)).toNat = 3 * k by omega, wI_ok (by omega) (by omega)]
      unfold ldG
      by_cases q : h 17 (3 * k) = pl
      · rw [if_neg (by omega), if_pos q]
      · rw [if_pos (by omega), if_neg q]
        by_cases q1 : h 17 (3 * k) - pl = 1
        · rw [if_pos q1, if_pos (Or.inl q1), ih _ _ rfl (by omega)]
        · rw [if_neg q1]
          by_cases q2 : h 17 (3 * k) - pl = -1
          · rw [if_neg (fun z => z q2), if_pos (Or.inr q2), ih _ _ rfl (by omega)]
          · rw [if_pos q2, if_neg (by omega), ih _ _ rfl (by omega)]
  rw [q87_0, wI_ok (by omega) (by omega)]
  have := key (h 2 3).toNat (-1) vU rfl (by omega)
  rw [show (((h 2 3).toNat : Nat) : Int) = h 2 3 by omega] at this
  exact this
theorem ab_n {x : Int} (h0 : -100000 ≤ x) (h1 : x ≤ 100000) : ab x = if 0 ≤ x then x else -x := by
  unfold ab
  split
  · rfl
  · rw [wI_ok (by omega) (by omega)]
theorem m_landsAt (d : Nat) (pl n : Int) (h : MH) (fo : Nat → Int) (en : h 97 26 = n) (h0 : 1 ≤ n) (h8 : n ≤ 8) (hp : -1000 ≤ pl ∧ pl ≤ 1000) (ef : ∀ f : Nat, (f : Int) < n → h 104 (3 * f) = fo (3 * f)) (hf : ∀ f : Nat, (f : Int) < n → 0 ≤ fo (3 * f) ∧ fo (3 * f) ≤ 40) (hd : ∀ i j : Nat, (i : Int) < n → (j : Int) < n → fo (3 * i) = fo (3 * j) → i = j) : Run (d + 2) 235 0 [vR 97, .inl pl, vU] [] h = some (some (.inl (ldF fo n pl)), h) := by
  have key : ∀ (k : Nat) (j : Int) (B : Nat), 1 ≤ j → j ≤ n → (n - j).toNat = k → (B : Int) < j → (∀ g : Nat, (g : Int) < j → ab (fo (3 * B) - pl) ≤ ab (fo (3 * g) - pl)) → (∀ g : Nat, g < B → ab (fo (3 * B) - pl) < ab (fo (3 * g) - pl)) → ∃ B2 : Nat, Run (d + 1) 236 4 [vR 97, .inl pl, .inl B, .inl j] [] h = some (some (.inl B2), h) ∧ (B2 : Int) < n ∧ (∀ g : Nat, (g : Int) < n → ab (fo (3 * B2) - pl) ≤ ab (fo (3 * g) - pl)) ∧ (∀ g : Nat, g < B2 → ab (fo (3 * B2) - pl) < ab (fo (3 * g) - pl)) := by
    intro k
    induction k with
    | zero =>
      intro j B h1 hj hk hB hmin hlow
      have : j = n := by omega
      subst this
      exact ⟨B, by rw [q236_4, if_pos (by omega)], hB, hmin, hlow⟩
    | succ k ih =>
      intro j B h1 hj hk hB hmin hlow
      have f1 := hf B (by omega)
      have f2 := hf j.toNat (by omega)
      have e1 := ef B (by omega)
      have e2 := ef j.toNat (by omega)
      have step : Run (d + 1) 236 4 [vR 97, .inl pl, .inl B, .inl j] [] h = if ab (fo (3 * B) - pl) ≤ ab (fo (3 * j.toNat) - pl) then Run (d + 1) 236 4 [vR 97, .inl pl, .inl B, .inl (j + 1)] [] h else Run (d + 1) 236 4 [vR 97, .inl pl, .inl j, .inl (j + 1)] [] h := by
        rw [q236_4, if_neg (by omega), m_place _ _ _ (by omega) (by omega), cI_some, m_place _ _ _ (by omega) (by omega), cI_some, show (3 * (B : Int)).toNat = 3 * B by omega, show (3 * j).toNat = 3 * j.toNat by omega, e1, e2, wI_ok (x := j + 1) (by omega) (by omega), wI_ok (by omega) (by omega), wI_ok (by omega) (by omega)]
      rw [step]
      by_cases q : ab (fo (3 * B) - pl) ≤ ab (fo (3 * j.toNat) - pl)
      · rw [if_pos q]
        refine ih (j + 1) B (by omega) (by omega) (by omega) (by omega) (fun g hg => ?_) hlow
        by_cases z : (g : Int) = j
        · rw [show g = j.toNat by omega]; exact q
        · exact hmin g (by omega)
      · rw [if_neg q]
        have := ih (j + 1) j.toNat (by omega) (by omega) (by omega) (by omega) (fun g hg => ?_) (fun g hg => ?_)
        · rw [show ((j.toNat : Nat) : Int) = j by omega] at this
          exact this
        · by_cases z : (g : Int) = j
          · rw [show g = j.toNat by omega]; omega
          · have := hmin g (by omega); omega
        · have := hmin g (by omega); omega
  obtain ⟨B, r1, r2, r3, r4⟩ := key _ 1 0 (by omega) h0 rfl (by omega) (fun g hg => by rw [show g = 0 by omega]; omega) (fun g hg => absurd hg (Nat.not_lt_zero g))
  have f1 := hf B r2
  have e1 := ef B r2
  have hab : ∀ g : Nat, (g : Int) < n → ab (fo (3 * g) - pl) = if 0 ≤ fo (3 * g) - pl then fo (3 * g) - pl else -(fo (3 * g) - pl) := fun g hg => by have := hf g hg; exact ab_n (by omega) (by omega)
  have hB := hab B r2
  rw [q235_0, q236_0]
  have r1' : Run (d + 1) 236 4 [vR 97, .inl pl, .inl 0, .inl 1] [] h = some (some (.inl (B : Int)), h) := r1
  rw [r1', cI_some, m_place _ _ _ (by omega) (by omega), cI_some, show (3 * (B : Int)).toNat = 3 * B by omega, e1, wI_ok (by omega) (by omega)]
  unfold ldF
  rcases ldG_spec fo pl n.toNat (-1) with ⟨f, h1, h2, h3⟩ | ⟨h1, ⟨f, h3, h4, h5, h6⟩ | ⟨h3, h4⟩⟩
  · have := r3 f (by omega)
    have hf2 := hab f (by omega)
    rw [h3, if_neg (by rw [hf2, h2] at this; simp at this; omega)]
    have e : fo (3 * B) = fo (3 * f) := by
      rw [hf2, hB, h2] at this
      simp only [Int.sub_self, Int.le_refl, if_true] at this
      split at this <;> omega
    rw [hd B f r2 (by omega) e]
  · have hf2 := hab f (by omega)
    have m1 := r3 f (by omega)
    have z1 := h1 B (by omega)
    have hB1 : ab (fo (3 * B) - pl) = 1 := by
      rw [hB] at m1 ⊢
      rw [hf2] at m1
      split at m1 <;> split at m1 <;> split <;> omega
    have hBb : fo (3 * B) - pl = 1 ∨ fo (3 * B) - pl = -1 := by
      rw [hB] at hB1
      split at hB1 <;> omega
    have hf1 : ab (fo (3 * f) - pl) = 1 := by
      rw [hf2]
      split <;> omega
    rw [if_neg (by omega), h5]
    have : f = B := by
      rcases Nat.lt_trichotomy f B with z | z | z
      · have := r4 f z; omega
      · exact z
      · exact absurd hBb (h6 B z)
    rw [this]
  · have z1 := h1 B (by omega)
    have z2 := h3 B (by omega)
    rw [h4, if_pos (by rw [hB]; split <;> omega)]
theorem e_landF {h : MH} (i : iLg h) (d : Nat) (pl : Int) (hp : -1000 ≤ pl ∧ pl ≤ 1000) : Run (d + 1) 87 0 [vR 2, .inl pl, vU, vU, vU] [] h = some (some (.inl (ldF (h 17) (h 2 3) pl)), h) := by
  obtain ⟨l1, l2, l3, l4, l5, l6, l7⟩ := lgL i
  exact e_fortNear d pl h l3 l4 hp (fun f hf => ((okL_ i (by omega)).2.2.2.1 f hf).1)
theorem m_landF {h : MH} (i : iLg h) (hf : 0 < h 2 3) (d : Nat) (pl : Int) (hp : -1000 ≤ pl ∧ pl ≤ 1000) : Run (d + 2) 235 0 [vR 97, .inl pl, vU] [] h = some (some (.inl (ldF (h 17) (h 2 3) pl)), h) := by
  obtain ⟨l1, l2, l3, l4, l5, l6, l7⟩ := lgL i
  obtain ⟨-, -, -, k1, k2, -⟩ := okL_ i (by omega)
  exact m_landsAt d pl _ h (h 17) l1 (by omega) l4 hp (fun f' hf' => by
      have := lfL i (3 * f') (by omega) (by omega)
      rw [show (3 * (f' : Int)).toNat = 3 * f' by omega] at this
      exact this) (fun f' hf' => (k1 f' hf').1) k2
