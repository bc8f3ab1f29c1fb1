/-! with how much powder one comes where -/
def fsF (g : Int → Int) (to : Int) : Nat → Int
  | 0 => -1
  | n + 1 => if fsF g to n = -1 then (if g (n + 1 : Nat) = to then ((n + 1 : Nat) : Int) else -1) else fsF g to n
def fsD (g : Int → Int) (to : Int) : Nat → Int
  | 0 => 0
  | k + 1 => if g (20 - k : Int) = to then (20 - k : Int) else fsD g to k
theorem fsF_spec (g : Int → Int) (to : Int) : ∀ n : Nat, (fsF g to n = -1 ∧ ∀ p : Nat, 1 ≤ p → p ≤ n → g p ≠ to) ∨ ∃ p : Nat, fsF g to n = p ∧ 1 ≤ p ∧ p ≤ n ∧ g p = to ∧ ∀ q : Nat, 1 ≤ q → q < p → g q ≠ to
  | 0 => Or.inl ⟨rfl, fun p h1 h2 => by omega⟩
  | n + 1 => by
    unfold fsF
    rcases fsF_spec g to n with ⟨h1, h2⟩ | ⟨p, h1, h2, h3, h4, h5⟩
    · rw [if_pos h1]
      by_cases q : g (n + 1 : Nat) = to
      · rw [if_pos q]
        exact Or.inr ⟨n + 1, rfl, by omega, by omega, q, fun r r1 r2 => h2 r r1 (by omega)⟩
      · rw [if_neg q]
        refine Or.inl ⟨rfl, fun p p1 p2 => ?_⟩
        by_cases z : p = n + 1
        · rw [z]; exact q
        · exact h2 p p1 (by omega)
    · rw [if_neg (by omega)]
      exact Or.inr ⟨p, h1, h2, by omega, h4, h5⟩
theorem fsD_spec (g : Int → Int) (to : Int) : ∀ k : Nat, k ≤ 20 → (fsD g to k = 0 ∧ ∀ p : Nat, p ≤ 20 → 20 < p + k → g p ≠ to) ∨ ∃ p : Nat, fsD g to k = p ∧ p ≤ 20 ∧ 20 < p + k ∧ g p = to ∧ ∀ q : Nat, 20 < q + k → q < p → g q ≠ to
  | 0, _ => Or.inl ⟨rfl, fun p h1 h2 => by omega⟩
  | k + 1, hk => by
    unfold fsD
    by_cases q : g (20 - k : Int) = to
    · rw [if_pos q]
      refine Or.inr ⟨20 - k, by omega, by omega, by omega, ?_, fun q' h1 h2 => by omega⟩
      rw [show ((20 - k : Nat) : Int) = 20 - (k : Int) by omega]
      exact q
    · rw [if_neg q]
      have z0 : ∀ p : Nat, p = 20 - k → g p ≠ to := fun p hp => by rw [show (p : Int) = 20 - (k : Int) by omega]; exact q
      rcases fsD_spec g to k (by omega) with ⟨h1, h2⟩ | ⟨p, h1, h2, h3, h4, h5⟩
      · refine Or.inl ⟨h1, fun p p1 p2 => ?_⟩
        by_cases z : p = 20 - k
        · exact z0 p z
        · exact h2 p p1 (by omega)
      · refine Or.inr ⟨p, h1, h2, by omega, h4, fun r r1 r2 => ?_⟩
        by_cases z : r = 20 - k
        · exact z0 r z
        · exact h5 r (by omega) r2
def am0 (x : Int) : Int := if x = -1 then 0 else x
theorem fs_eq (g : Int → Int) (to : Int) : fsD g to 20 = am0 (fsF g to 20) := by
  unfold am0
  rcases fsF_spec g to 20 with ⟨h1, h2⟩ | ⟨p, h1, h2, h3, h4, h5⟩
  · rw [if_pos h1]
    rcases fsD_spec g to 20 (by omega) with ⟨g1, g2⟩ | ⟨p, g1, g2, g3, g4, g5⟩
    · exact g1
    · exact absurd g4 (h2 p (by omega) g2)
  · rw [if_neg (by omega), h1]
    rcases fsD_spec g to 20 (by omega) with ⟨g1, g2⟩ | ⟨p', g1, g2, g3, g4, g5⟩
    · exact absurd h4 (g2 p h3 (by omega))
    · rw [g1]
      congr 1
      rcases Nat.lt_trichotomy p p' with z | z | z
      · exact absurd h4 (g5 p (by omega) z)
      · exact z.symm
      · exact absurd g4 (h5 p' (by omega) z)
/-- where one lands from f by a way with p -/
def gwF (Ws : Nat → WF) (lw : Int) (fo ca : Nat → Int) (n c f wd wy dp way p : Int) : Int := ldF fo n (plF Ws lw fo ca c f p way wd wy dp)
def amF (Ws : Nat → WF) (lw : Int) (fo ca : Nat → Int) (n c f wd wy dp to : Int) : Int := if to = f then -1 else if fo (3 * f).toNat < fo (3 * to).toNat then fsF (gwF Ws lw fo ca n c f wd wy dp 0) to 20 else fsF (gwF Ws lw fo ca n c f wd wy dp 1) to 20
/-- places of forts: apart -/
def apF (fo : Nat → Int) (n : Int) : Prop := ∀ i j : Nat, (i : Int) < n → (j : Int) < n → fo (3 * i) = fo (3 * j) → i = j
theorem gw_side {fo : Nat → Int} {n pl : Int} {f r t : Int} (ha : apF fo n) (hf0 : 0 ≤ f) (hf1 : f < n) (hr : 0 ≤ r) (ht : ldF fo n pl = t) (h0 : t ≠ -1) (hne : t ≠ f) : (0 ≤ t ∧ t < n) ∧ (pl = fo (3 * f).toNat + r → fo (3 * f).toNat < fo (3 * t).toNat) ∧ (pl = fo (3 * f).toNat - r → fo (3 * t).toNat < fo (3 * f).toNat) := by
  unfold ldF at ht
  have ef : (3 * f).toNat = 3 * f.toNat := by omega
  rcases ldG_spec fo pl n.toNat (-1) with ⟨g, h1, h2, h3⟩ | ⟨h1, ⟨g, h3, h4, h5, h6⟩ | ⟨h3, h4⟩⟩
  · have e : t = g := by omega
    subst e
    have : fo (3 * g) ≠ fo (3 * f.toNat) := fun z => hne (by have := ha g f.toNat (by omega) (by omega) z; omega)
    rw [ef, show (3 * (g : Int)).toNat = 3 * g by omega]
    refine ⟨by omega, fun z => by omega, fun z => by omega⟩
  · have e : t = g := by omega
    subst e
    have z0 := h1 f.toNat (by omega)
    have : fo (3 * g) ≠ fo (3 * f.toNat) := fun z => hne (by have := ha g f.toNat (by omega) (by omega) z; omega)
    rw [ef, show (3 * (g : Int)).toNat = 3 * g by omega]
    refine ⟨by omega, fun z => by omega, fun z => by omega⟩
  · omega
theorem gw_0 {Ws : Nat → WF} {lw : Int} {fo ca : Nat → Int} {n c f wd wy dp p t : Int} (ha : apF fo n) (hf0 : 0 ≤ f) (hf1 : f < n) (ht : gwF Ws lw fo ca n c f wd wy dp 0 p = t) (h0 : t ≠ -1) (hne : t ≠ f) : (0 ≤ t ∧ t < n) ∧ fo (3 * f).toNat < fo (3 * t).toNat := by
  have := gw_side ha hf0 hf1 (rcF_b Ws lw fo ca c f p (alF wd wy 0) dp).1 ht h0 hne
  exact ⟨this.1, this.2.1 (by unfold plF; rw [if_pos rfl])⟩
theorem gw_1 {Ws : Nat → WF} {lw : Int} {fo ca : Nat → Int} {n c f wd wy dp p t : Int} (ha : apF fo n) (hf0 : 0 ≤ f) (hf1 : f < n) (ht : gwF Ws lw fo ca n c f wd wy dp 1 p = t) (h0 : t ≠ -1) (hne : t ≠ f) : (0 ≤ t ∧ t < n) ∧ fo (3 * t).toNat < fo (3 * f).toNat := by
  have := gw_side ha hf0 hf1 (rcF_b Ws lw fo ca c f p (alF wd wy 1) dp).1 ht h0 hne
  exact ⟨this.1, this.2.2 (by unfold plF; rw [if_neg (by omega)])⟩
theorem am_cls {Ws : Nat → WF} {lw : Int} {fo ca : Nat → Int} {n c f wd wy dp to : Int} (ha : apF fo n) (hf0 : 0 ≤ f) (hf1 : f < n) (ht : 0 ≤ to) : (if to = f then -1 else if fsF (gwF Ws lw fo ca n c f wd wy dp 0) to 20 = -1 then fsF (gwF Ws lw fo ca n c f wd wy dp 1) to 20 else fsF (gwF Ws lw fo ca n c f wd wy dp 0) to 20) = amF Ws lw fo ca n c f wd wy dp to := by
  unfold amF
  by_cases q : to = f
  · rw [if_pos q, if_pos q]
  · rw [if_neg q, if_neg q]
    rcases fsF_spec (gwF Ws lw fo ca n c f wd wy dp 0) to 20 with ⟨h1, h2⟩ | ⟨p, h1, h2, h3, h4, h5⟩
    · rw [if_pos h1]
      by_cases q2 : fo (3 * f).toNat < fo (3 * to).toNat
      · rw [if_pos q2, h1]
        rcases fsF_spec (gwF Ws lw fo ca n c f wd wy dp 1) to 20 with ⟨g1, g2⟩ | ⟨p, g1, g2, g3, g4, g5⟩
        · exact g1
        · have := gw_1 ha hf0 hf1 g4 (by omega) q
          omega
      · rw [if_neg q2]
    · rw [if_neg (by omega)]
      have := gw_0 ha hf0 hf1 h4 (by omega) q
      rw [if_pos this.2]
theorem am_b (Ws : Nat → WF) (lw : Int) (fo ca : Nat → Int) (n c f wd wy dp to : Int) : amF Ws lw fo ca n c f wd wy dp to = -1 ∨ (1 ≤ amF Ws lw fo ca n c f wd wy dp to ∧ amF Ws lw fo ca n c f wd wy dp to ≤ 20) := by
  unfold amF
  split
  · left; rfl
  · split
    · rcases fsF_spec (gwF Ws lw fo ca n c f wd wy dp 0) to 20 with ⟨h1, h2⟩ | ⟨p, h1, h2, h3, h4, h5⟩ <;> omega
    · rcases fsF_spec (gwF Ws lw fo ca n c f wd wy dp 1) to 20 with ⟨h1, h2⟩ | ⟨p, h1, h2, h3, h4, h5⟩ <;> omega
theorem am_self (Ws : Nat → WF) (lw : Int) (fo ca : Nat → Int) (n c f wd wy dp : Int) : amF Ws lw fo ca n c f wd wy dp f = -1 := by
  unfold amF
  rw [if_pos rfl]
/-- the aims that are remembered are right -/
def InvA (Ws : Nat → WF) (h : MH) : Prop := (∀ c f : Nat, (c : Int) < h 2 4 → (f : Int) < h 2 3 → ∀ lw wd wy dp : Int, -1 ≤ lw → lw < h 6 1 → 0 ≤ wd → wd ≤ 9 → (wy = 0 ∨ wy = 1) → 0 ≤ dp → dp ≤ 9 → h 39 (8 * c + f) = (lw + 1) * 1000 + wd * 100 + wy * 10 + dp + 1 → ∀ to : Nat, to < 8 → h 38 (64 * c + 8 * f + to) = amF Ws lw (h 17) (h 18) (h 2 3) c f wd wy dp to) ∧ ∀ c f : Nat, (c : Int) < h 2 4 → (f : Int) < h 2 3 → h 39 (8 * c + f) ≤ h 6 1 * 1000 + 920
def InvX (b : Int) (Ws : Nat → WF) (h : MH) : Prop := InvB b Ws h ∧ InvA Ws h
theorem InvA_c {Ws : Nat → WF} {h h2 : MH} (e : ∀ a j, relL a j = true → h2 a j = h a j) (i : InvA Ws h) : InvA Ws h2 := by
  refine ⟨?_, fun c f hc hf => by
    rw [e _ _ rfl] at hc hf
    rw [e _ _ rfl, e _ _ rfl]
    exact i.2 c f hc hf⟩
  intro c f hc hf lw wd wy dp h1 h2' h3 h4 h5 h6 h7 h8 to ht
  have e1 : h2 17 = h 17 := funext fun j => e _ _ rfl
  have e2 : h2 18 = h 18 := funext fun j => e _ _ rfl
  rw [e _ _ rfl] at hc hf h2' h8
  rw [e _ _ rfl, e1, e2, e _ _ rfl]
  exact i.1 c f hc hf lw wd wy dp h1 h2' h3 h4 h5 h6 h7 h8 to ht
theorem Eqv.X {b : Int} {Ws : Nat → WF} {h h2 : MH} (e : Eqv h h2) (i : InvX b Ws h) : InvX b Ws h2 := ⟨e.B i.1, InvA_c (fun a j r => e a j (relL_B r)) i.2⟩
/-- class cells that reckoning writes -/
def EA (h h1 : MH) : Prop := ∀ a, a ≠ 23 → a ≠ 30 → a ≠ 38 → a ≠ 39 → h1 a = h a
theorem EA.rf (h : MH) : EA h h := fun _ _ _ _ _ => rfl
theorem EA.tr {h h1 h2 : MH} (e : EA h h1) (f : EA h1 h2) : EA h h2 := fun a n1 n2 n3 n4 => (f a n1 n2 n3 n4).trans (e a n1 n2 n3 n4)
theorem EA.B {b : Int} {Ws : Nat → WF} {h h1 : MH} (e : EA h h1) (i : InvB b Ws h) : InvB b Ws h1 := InvB_c i (fun a j r n3 n4 => by
  rw [e a (fun z => by subst z; exact Bool.false_ne_true r) (fun z => by subst z; exact Bool.false_ne_true r) n3 n4])
def amH (Ws : Nat → WF) (h : MH) (c f to : Int) : Int := amF Ws (h 6 2) (h 17) (h 18) (h 2 3) c f (h 91 1) (h 91 2) (h 91 3) to
theorem EA.am {Ws : Nat → WF} {h h1 : MH} (e : EA h h1) : amH Ws h1 = amH Ws h := by
  funext c f to
  unfold amH
  rw [e 6 (by omega) (by omega) (by omega) (by omega), e 17 (by omega) (by omega) (by omega) (by omega), e 18 (by omega) (by omega) (by omega) (by omega), e 2 (by omega) (by omega) (by omega) (by omega), e 91 (by omega) (by omega) (by omega) (by omega)]
theorem Eqv.am {Ws : Nat → WF} {h h1 : MH} (e : Eqv h h1) : amH Ws h1 = amH Ws h := by
  funext c f to
  unfold amH
  have e1 : h1 17 = h 17 := funext fun j => e _ _ rfl
  have e2 : h1 18 = h 18 := funext fun j => e _ _ rfl
  rw [e1, e2, e 6 _ rfl, e 2 _ rfl, e 91 _ rfl, e 91 _ rfl, e 91 _ rfl]
theorem ap_n {b : Int} {h : MH} (i : Inv0 b h) (hf : 0 < h 2 3) : apF (h 17) (h 2 3) := by
  obtain ⟨-, -, -, -, k, -⟩ := lg_ok i (by omega)
  exact k
theorem fo_n {b : Int} {h : MH} (i : Inv0 b h) (f : Nat) (hf : (f : Int) < h 2 3) : 0 ≤ h 17 (3 * f) ∧ h 17 (3 * f) ≤ 40 := by
  obtain ⟨-, -, -, k, -, -⟩ := lg_ok i (by omega)
  exact (k f hf).1
/-- the class' row of aims, k0 and k1 powders tried by the two ways -/
def CP (g : Int → Int → Int) (f : Int) (s k0 k1 : Nat) (r0 r : Nat → Int) : Prop := (∀ to : Nat, to < 8 → r (s + to) = if (to : Int) = f then -1 else if fsF (g 0) to k0 = -1 then fsF (g 1) to k1 else fsF (g 0) to k0) ∧ ∀ j, ¬ (s ≤ j ∧ j < s + 8) → r j = r0 j
theorem CP_step {g : Int → Int → Int} {f : Int} {s k0 k1 : Nat} {r0 r : Nat → Int} {w t : Int} {p : Nat} (q : CP g f s k0 k1 r0 r) (hw : (w = 0 ∧ p = k0 + 1 ∧ k1 = 0) ∨ (w = 1 ∧ p = k1 + 1)) (ht : g w p = t) (hb : t = -1 ∨ (0 ≤ t ∧ t < 8)) : CP g f s (if w = 0 then k0 + 1 else k0) (if w = 0 then k1 else k1 + 1) r0 (if t = -1 ∨ t = f ∨ ¬ r (s + t.toNat) = -1 then r else su r (s + t.toNat) p) := by
  obtain ⟨q1, q2⟩ := q
  have key : ∀ to : Nat, to < 8 → (to : Int) ≠ f → ((if fsF (g 0) to (if w = 0 then k0 + 1 else k0) = -1 then fsF (g 1) to (if w = 0 then k1 else k1 + 1) else fsF (g 0) to (if w = 0 then k0 + 1 else k0)) = if (if fsF (g 0) to k0 = -1 then fsF (g 1) to k1 else fsF (g 0) to k0) = -1 ∧ t = to then (p : Int) else (if fsF (g 0) to k0 = -1 then fsF (g 1) to k1 else fsF (g 0) to k0)) := by
    intro to h8 hne
    rcases hw with ⟨w0, w1, w2⟩ | ⟨w0, w1⟩
    · subst w0; subst w2; subst w1
      simp only [if_true]
      have e0 : fsF (g 1) to 0 = -1 := rfl
      have e1 : fsF (g 0) to (k0 + 1) = if fsF (g 0) to k0 = -1 then (if g 0 (k0 + 1 : Nat) = to then ((k0 + 1 : Nat) : Int) else -1) else fsF (g 0) to k0 := rfl
      rw [e1, e0, ht]
      by_cases z1 : fsF (g 0) to k0 = -1
      · simp only [if_pos z1]
        by_cases z2 : t = to
        · simp only [if_pos z2]
          rw [if_neg (by omega), if_pos ⟨trivial, z2⟩]
        · simp only [if_neg z2]
          rw [if_pos trivial, if_neg (fun z => z2 z.2)]
      · simp only [if_neg z1]
        rw [if_neg (fun z => z1 z.1)]
    · subst w0; subst w1
      have e1 : fsF (g 1) to (k1 + 1) = if fsF (g 1) to k1 = -1 then (if g 1 (k1 + 1 : Nat) = to then ((k1 + 1 : Nat) : Int) else -1) else fsF (g 1) to k1 := rfl
      rw [if_neg (by omega : ¬ (1 : Int) = 0), if_neg (by omega : ¬ (1 : Int) = 0), e1, ht]
      by_cases z1 : fsF (g 0) to k0 = -1
      · simp only [if_pos z1]
        by_cases z3 : fsF (g 1) to k1 = -1
        · simp only [if_pos z3]
          by_cases z2 : t = to
          · rw [if_pos z2, if_pos ⟨z3, z2⟩]
          · rw [if_neg z2, if_neg (fun z => z2 z.2), z3]
        · simp only [if_neg z3]
          rw [if_neg (fun z => z3 z.1)]
      · simp only [if_neg z1]
        rw [if_neg (fun z => z1 z.1)]
  have hp : (p : Int) ≠ -1 := by omega
  refine ⟨fun to h8 => ?_, fun j hj => ?_⟩
  · by_cases hne : (to : Int) = f
    · rw [if_pos hne]
      have base : r (s + to) = -1 := by rw [q1 to h8, if_pos hne]
      split
      · exact base
      · rw [su_i (by omega)]; exact base
    · rw [if_neg hne, key to h8 hne]
      have base := q1 to h8
      rw [if_neg hne] at base
      rw [← base]
      by_cases z : t = to
      · have et : s + t.toNat = s + to := by omega
        rw [et]
        by_cases z2 : r (s + to) = -1
        · rw [if_neg (by omega), su_s, if_pos ⟨z2, z⟩]
        · rw [if_pos (by omega), if_neg (fun y => z2 y.1)]
      · rw [if_neg (c := r (s + to) = -1 ∧ t = to) (fun y => z y.2)]
        split
        · rfl
        · rw [su_i (by omega)]
  · split
    · exact q2 j hj
    · rw [su_i (by omega)]; exact q2 j hj
theorem e_reckon {b : Int} {Ws : Nat → WF} {h : MH} (i : InvB b Ws h) (d : Nat) {c f : Int} (hc0 : 0 ≤ c) (hc1 : c < h 2 4) (hf0 : 0 ≤ f) (hf1 : f < h 2 3) :
    ∃ h1, Run (d + 4) 126 0 [vR 8, vR 12, .inl c, .inl f, vU, vU, vU, vU, vU, vU] [] h = some (none, h1) ∧ (∀ a, a ≠ 23 → a ≠ 30 → a ≠ 38 → h1 a = h a) ∧ (∀ to : Nat, to < 8 → h1 38 (64 * c.toNat + 8 * f.toNat + to) = amH Ws h c f to) ∧ ∀ j, ¬ (64 * c.toNat + 8 * f.toNat ≤ j ∧ j < 64 * c.toNat + 8 * f.toNat + 8) → h1 38 j = h 38 j := by
  obtain ⟨⟨n1, n2⟩, ⟨n3, n4⟩, n5, n6⟩ := cf_n i.1 hc0 hc1 hf0 hf1
  obtain ⟨l1, l2, l3, l4, l5, l6, l7⟩ := lg_n i.1
  have o := nowOK i.1
  have ap := ap_n i.1 (by omega)
  have eS : wI (wI (wI (c * 8) + f) * 8) = 64 * c + 8 * f := by
    rw [wI_ok (x := c * 8) (by omega) (by omega), wI_ok (x := c * 8 + f) (by omega) (by omega), wI_ok (by omega) (by omega)]
    omega
  -- the row is cleared
  have clear : ∀ (k : Nat) (x : Int) (g : MH), 0 ≤ x → x ≤ 8 → (8 - x).toNat = k → (∀ a, a ≠ 38 → g a = h a) → (∀ to : Nat, (to : Int) < x → g 38 (64 * c.toNat + 8 * f.toNat + to) = -1) → (∀ j, ¬ (64 * c.toNat + 8 * f.toNat ≤ j ∧ j < 64 * c.toNat + 8 * f.toNat + 8) → g 38 j = h 38 j) → ∃ g2, Run (d + 4) 126 14 [vR 8, vR 12, .inl c, .inl f, .inl (64 * c + 8 * f), .inl x, vU, vU, vU, vU] [] g = Run (d + 4) 126 41 [vR 8, vR 12, .inl c, .inl f, .inl (64 * c + 8 * f), .inl 0, vU, vU, vU, vU] [] g2 ∧ (∀ a, a ≠ 38 → g2 a = h a) ∧ (∀ to : Nat, to < 8 → g2 38 (64 * c.toNat + 8 * f.toNat + to) = -1) ∧ (∀ j, ¬ (64 * c.toNat + 8 * f.toNat ≤ j ∧ j < 64 * c.toNat + 8 * f.toNat + 8) → g2 38 j = h 38 j) := by
    intro k
    induction k with
    | zero =>
      intro x g h0 h1 hk e1 e2 e3
      refine ⟨g, ?_, e1, fun to ht => e2 to (by omega), e3⟩
      rw [q126_14 (hz4 := rfl) (hz5 := rfl) (hz6 := rfl) (hz7 := rfl), if_pos (by omega)]
    | succ k ih =>
      intro x g h0 h1 hk e1 e2 e3
      obtain ⟨g2, r1, r2, r3, r4⟩ := ih (x + 1) (up g 38 (64 * c + 8 * f + x).toNat (-1)) (by omega) (by omega) (by omega) (fun a ha => by rw [up_ne ha]; exact e1 a ha) (fun to ht => by
        by_cases z : (to : Int) = x
        · rw [show 64 * c.toNat + 8 * f.toNat + to = (64 * c + 8 * f + x).toNat by omega, up_s]
        · rw [up_i (by omega)]; exact e2 to (by omega)) (fun j hj => by rw [up_i (by omega)]; exact e3 j hj)
      refine ⟨g2, ?_, r2, r3, r4⟩
      rw [← r1, q126_14 (hz4 := rfl) (hz5 := rfl) (hz6 := rfl) (hz7 := rfl), if_neg (by omega), wI_ok (x := 64 * c + 8 * f + x) (by omega) (by omega), if_pos (by omega), wI_ok (by omega) (by omega)]
  obtain ⟨g0, r1, r2, r3, r4⟩ := clear _ 0 h (by omega) (by omega) rfl (fun _ _ => rfl) (fun to ht => by omega) (fun _ _ => rfl)
  -- powders by a way
  have pow : ∀ (k : Nat) (w x : Int) (k0 k1 : Nat) (g : MH) (z6 z7 : MV), cat z6 = 1 → cat z7 = 1 → 1 ≤ x → x ≤ 21 → (21 - x).toNat = k → ((w = 0 ∧ x = k0 + 1 ∧ k1 = 0) ∨ (w = 1 ∧ x = k1 + 1 ∧ k0 = 20)) → (∀ a, a ≠ 23 → a ≠ 30 → a ≠ 38 → g a = h a) → CP (gwF Ws (h 6 2) (h 17) (h 18) (h 2 3) c f (h 91 1) (h 91 2) (h 91 3)) f (64 * c.toNat + 8 * f.toNat) k0 k1 (h 38) (g 38) →
      ∃ g2 y6 y7, cat y6 = 1 ∧ cat y7 = 1 ∧ Run (d + 4) 126 69 [vR 8, vR 12, .inl c, .inl f, .inl (64 * c + 8 * f), .inl w, .inl (alF (h 91 1) (h 91 2) w), .inl x, z6, z7] [] g = Run (d + 4) 126 41 [vR 8, vR 12, .inl c, .inl f, .inl (64 * c + 8 * f), .inl (w + 1), .inl (alF (h 91 1) (h 91 2) w), .inl 21, y6, y7] [] g2 ∧ (∀ a, a ≠ 23 → a ≠ 30 → a ≠ 38 → g2 a = h a) ∧ CP (gwF Ws (h 6 2) (h 17) (h 18) (h 2 3) c f (h 91 1) (h 91 2) (h 91 3)) f (64 * c.toNat + 8 * f.toNat) 20 (if w = 0 then 0 else 20) (h 38) (g2 38) := by
    intro k
    induction k with
    | zero =>
      intro w x k0 k1 g z6 z7 c6 c7 h0 h1 hk hw e1 cp
      have hx : x = 21 := by omega
      subst hx
      refine ⟨g, z6, z7, c6, c7, ?_, e1, ?_⟩
      · rw [q126_69 (hz6 := c6) (hz7 := c7), if_pos (by omega), wI_ok (by omega) (by omega)]
      · rcases hw with ⟨w0, w1, w2⟩ | ⟨w0, w1, w2⟩
        · rw [if_pos w0]
          rw [show k0 = 20 by omega, w2] at cp
          exact cp
        · rw [if_neg (by omega)]
          rw [show k1 = 20 by omega, w2] at cp
          exact cp
    | succ k ih =>
      intro w x k0 k1 g z6 z7 c6 c7 h0 h1 hk hw e1 cp
      have eg : EA h g := fun a a1 a2 a3 _ => e1 a a1 a2 a3
      have ig := eg.B i
      have q1 : g 2 = h 2 := e1 _ (by omega) (by omega) (by omega)
      have q2 : g 6 = h 6 := e1 _ (by omega) (by omega) (by omega)
      have q3 : g 17 = h 17 := e1 _ (by omega) (by omega) (by omega)
      have q4 : g 18 = h 18 := e1 _ (by omega) (by omega) (by omega)
      have q5 : g 91 = h 91 := e1 _ (by omega) (by omega) (by omega)
      have ha := al_b (wd := h 91 1) (wy := h 91 2) (way := w) o.1.2.1.1 (by have := o.1.2.1.2; omega)
      obtain ⟨g1, s1, s2⟩ := e_reach ig (d := d) (c := c) (f := f) (p := x) (w := alF (h 91 1) (h 91 2) w) (dm := h 91 3) hc0 (by rw [q1]; exact hc1) hf0 (by rw [q1]; exact hf1) h0 (by omega) ha.1 ha.2 o.1.2.2.2.1.1 o.1.2.2.2.1.2
      rw [q2, q3, q4] at s1
      have hb := rcF_b Ws (h 6 2) (h 17) (h 18) c f x (alF (h 91 1) (h 91 2) w) (h 91 3)
      have u1 : g1 2 = h 2 := by rw [s2 _ (by omega) (by omega), q1]
      have u3 : g1 17 = h 17 := by rw [s2 _ (by omega) (by omega), q3]
      have ep : (if w = 0 then h 17 (3 * f).toNat + rcF Ws (h 6 2) (h 17) (h 18) c f x (alF (h 91 1) (h 91 2) w) (h 91 3) else h 17 (3 * f).toNat - rcF Ws (h 6 2) (h 17) (h 18) c f x (alF (h 91 1) (h 91 2) w) (h 91 3)) = plF Ws (h 6 2) (h 17) (h 18) c f x w (h 91 1) (h 91 2) (h 91 3) := rfl
      have pb := plF_b i (c := c) (f := f) (p := x) (way := w) (wd := h 91 1) (wy := h 91 2) (dm := h 91 3) hc0 hc1 hf0 hf1
      generalize ht : gwF Ws (h 6 2) (h 17) (h 18) (h 2 3) c f (h 91 1) (h 91 2) (h 91 3) w x = t
      have ht2 : ldF (h 17) (h 2 3) (plF Ws (h 6 2) (h 17) (h 18) c f x w (h 91 1) (h 91 2) (h 91 3)) = t := ht
      have tb : t = -1 ∨ (0 ≤ t ∧ t < 8) := by
        have := ldF_b (h 17) (h 2 3) (plF Ws (h 6 2) (h 17) (h 18) c f x w (h 91 1) (h 91 2) (h 91 3)) l3
        omega
      have run1 : Run (d + 4) 126 69 [vR 8, vR 12, .inl c, .inl f, .inl (64 * c + 8 * f), .inl w, .inl (alF (h 91 1) (h 91 2) w), .inl x, z6, z7] [] g = Run (d + 4) 126 69 [vR 8, vR 12, .inl c, .inl f, .inl (64 * c + 8 * f), .inl w, .inl (alF (h 91 1) (h 91 2) w), .inl (x + 1), .inl (rcF Ws (h 6 2) (h 17) (h 18) c f x (alF (h 91 1) (h 91 2) w) (h 91 3)), .inl t] [] (if t = -1 ∨ t = f ∨ ¬ g1 38 (64 * c.toNat + 8 * f.toNat + t.toNat) = -1 then g1 else up g1 38 (64 * c.toNat + 8 * f.toNat + t.toNat) x) := by
        rw [q126_69 (hz6 := c6) (hz7 := c7), if_neg (by omega), q5, s1, cI_some, e_place _ _ _ hf0 n6, cI_some, u3, e_comeTo _ _ _ _ _ (by omega) (by omega) hb.1 hb.2, cI_some, ep, e_fortNear _ _ _ (by rw [u1]; exact l3) (by rw [u1]; exact l4) (by omega) (fun f' hf' => by rw [u1] at hf'; rw [u3]; exact fo_n i.1 f' hf'), cI_some, u1, u3, ht2, wI_ok (x := x + 1) (by omega) (by omega)]
        by_cases z1 : t = -1
        · rw [if_pos z1, if_pos (Or.inl z1)]
        · rw [if_neg z1]
          by_cases z2 : t = f
          · rw [if_pos z2, if_pos (Or.inr (Or.inl z2))]
          · rw [if_neg z2, wI_ok (x := 64 * c + 8 * f + t) (by omega) (by omega), if_pos (by omega), show (64 * c + 8 * f + t).toNat = 64 * c.toNat + 8 * f.toNat + t.toNat by omega]
            by_cases z3 : g1 38 (64 * c.toNat + 8 * f.toNat + t.toNat) = -1
            · rw [if_neg (fun y => y z3), if_pos (by omega), if_neg (by omega)]
            · rw [if_pos z3, if_pos (Or.inr (Or.inr z3))]
      have cp1 : CP (gwF Ws (h 6 2) (h 17) (h 18) (h 2 3) c f (h 91 1) (h 91 2) (h 91 3)) f (64 * c.toNat + 8 * f.toNat) (if w = 0 then k0 + 1 else k0) (if w = 0 then k1 else k1 + 1) (h 38) ((if t = -1 ∨ t = f ∨ ¬ g1 38 (64 * c.toNat + 8 * f.toNat + t.toNat) = -1 then g1 else up g1 38 (64 * c.toNat + 8 * f.toNat + t.toNat) x) 38) := by
        have e8 : g1 38 = g 38 := s2 _ (by omega) (by omega)
        have := CP_step (p := x.toNat) (w := w) (t := t) cp (by omega) (by rw [show ((x.toNat : Nat) : Int) = x by omega]; exact ht) tb
        rw [show ((x.toNat : Nat) : Int) = x by omega] at this
        rw [e8]
        by_cases z : t = -1 ∨ t = f ∨ ¬ g 38 (64 * c.toNat + 8 * f.toNat + t.toNat) = -1
        · rw [if_pos z] at this ⊢
          rw [e8]
          exact this
        · rw [if_neg z] at this ⊢
          rw [up_row, e8]
          exact this
      obtain ⟨g2, y6, y7, d6, d7, v1, v2, v3⟩ := ih w (x + 1) (if w = 0 then k0 + 1 else k0) (if w = 0 then k1 else k1 + 1) (if t = -1 ∨ t = f ∨ ¬ g1 38 (64 * c.toNat + 8 * f.toNat + t.toNat) = -1 then g1 else up g1 38 (64 * c.toNat + 8 * f.toNat + t.toNat) x) (.inl (rcF Ws (h 6 2) (h 17) (h 18) c f x (alF (h 91 1) (h 91 2) w) (h 91 3))) (.inl t) rfl rfl (by omega) (by omega) (by omega) (by
          rcases hw with ⟨w0, w1, w2⟩ | ⟨w0, w1, w2⟩
          · left; rw [if_pos w0, if_pos w0]; omega
          · right; rw [if_neg (by omega), if_neg (by omega)]; omega) (fun a a1 a2 a3 => by
          split
          · rw [s2 a a1 a2, e1 a a1 a2 a3]
          · rw [up_ne a3, s2 a a1 a2, e1 a a1 a2 a3]) cp1
      exact ⟨g2, y6, y7, d6, d7, run1.trans v1, v2, v3⟩
  have ea : ∀ w : Int, Run (d + 3) 80 0 [.inl (h 91 1), .inl (h 91 2), .inl w] [] = fun g => some (some (.inl (alF (h 91 1) (h 91 2) w)), g) := fun w => funext fun g => e_along _ _ _ _ _ o.1.2.1.1 (by have := o.1.2.1.2; omega)
  obtain ⟨g1, y6, y7, d6, d7, v1, v2, v3⟩ := pow _ 0 1 0 0 g0 vU vU rfl rfl (by omega) (by omega) rfl (by omega) (fun a _ _ a3 => r2 a a3) ⟨fun to ht => by
      rw [r3 to ht]
      split
      · rfl
      · rfl, r4⟩
  obtain ⟨g2, x6, x7, f6, f7, w1, w2, w3⟩ := pow _ 1 1 20 0 g1 y6 y7 d6 d7 (by omega) (by omega) rfl (by omega) v2 v3
  refine ⟨g2, ?_, w2, fun to ht => ?_, w3.2⟩
  · rw [q126_0, eS]
    refine r1.trans ?_
    rw [q126_41 (hz4 := rfl) (hz5 := rfl) (hz6 := rfl) (hz7 := rfl), if_neg (by omega), r2 91 (by omega), ea, cI_some]
    refine v1.trans ?_
    rw [q126_41 (hz4 := rfl) (hz5 := rfl) (hz6 := d6) (hz7 := d7), if_neg (by omega), v2 91 (by omega) (by omega) (by omega), ea, cI_some]
    refine w1.trans ?_
    rw [q126_41 (hz4 := rfl) (hz5 := rfl) (hz6 := f6) (hz7 := f7), if_pos (by omega)]
  · have := w3.1 to ht
    rw [if_neg (by omega : ¬ (1 : Int) = 0)] at this
    rw [this]
    exact am_cls ap hf0 hf1 (by omega)
theorem e_leastPowder {b : Int} {Ws : Nat → WF} {h : MH} (i : InvX b Ws h) (d : Nat) {c f to : Int} (hc0 : 0 ≤ c) (hc1 : c < h 2 4) (hf0 : 0 ≤ f) (hf1 : f < h 2 3) (ht0 : 0 ≤ to) (ht1 : to < 8) :
    ∃ h1, Run (d + 5) 125 0 [vR 8, vR 12, .inl c, .inl f, .inl to, vU, vU] [] h = some (some (.inl (amH Ws h c f to)), h1) ∧ EA h h1 ∧ InvX b Ws h1 := by
  obtain ⟨⟨n1, n2⟩, ⟨n3, n4⟩, n5, n6⟩ := cf_n i.1.1 hc0 hc1 hf0 hf1
  have o := nowOK i.1.1
  obtain ⟨lw1, lw2, lw3, lw4⟩ := lw_n i.1.1
  obtain ⟨-, o1, o2, o3, -⟩ := o.1
  have e1 : wI (wI (c * 8) + f) = 8 * c + f := by
    rw [wI_ok (x := c * 8) (by omega) (by omega), wI_ok (by omega) (by omega)]
    omega
  have e2 : wI (wI ((8 * c + f) * 8) + to) = 64 * c + 8 * f + to := by
    rw [wI_ok (x := (8 * c + f) * 8) (by omega) (by omega), wI_ok (by omega) (by omega)]
    omega
  have e3 : wI (wI (wI (wI (wI (wI (h 6 2 + 1) * 1000) + wI (h 91 1 * 100)) + wI (h 91 2 * 10)) + h 91 3) + 1) = (h 6 2 + 1) * 1000 + h 91 1 * 100 + h 91 2 * 10 + h 91 3 + 1 := by
    rw [wI_ok (x := h 6 2 + 1) (by omega) (by omega), wI_ok (x := (h 6 2 + 1) * 1000) (by omega) (by omega), wI_ok (x := h 91 1 * 100) (by omega) (by omega), wI_ok (x := h 91 2 * 10) (by omega) (by omega)]
    rw [wI_ok (x := (h 6 2 + 1) * 1000 + h 91 1 * 100) (by omega) (by omega), wI_ok (x := (h 6 2 + 1) * 1000 + h 91 1 * 100 + h 91 2 * 10) (by omega) (by omega), wI_ok (x := (h 6 2 + 1) * 1000 + h 91 1 * 100 + h 91 2 * 10 + h 91 3) (by omega) (by omega), wI_ok (by omega) (by omega)]
  have et : (64 * c + 8 * f + to).toNat = 64 * c.toNat + 8 * f.toNat + to.toNat := by omega
  have er : (8 * c + f).toNat = 8 * c.toNat + f.toNat := by omega
  rw [q125_0]
  simp only [e1, e2, e3]
  have hA : 0 ≤ 8 * c + f ∧ 8 * c + f < 40 := by omega
  have hB : 0 ≤ 64 * c + 8 * f + to ∧ 64 * c + 8 * f + to < 320 := by omega
  simp only [if_pos hA, if_pos hB, et, er]
  by_cases q : h 39 (8 * c.toNat + f.toNat) = (h 6 2 + 1) * 1000 + h 91 1 * 100 + h 91 2 * 10 + h 91 3 + 1
  · rw [if_pos q]
    refine ⟨h, ?_, EA.rf h, i⟩
    have := i.2.1 c.toNat f.toNat (by omega) (by omega) _ _ _ _ lw4.1 lw4.2 o1.1 o1.2 o2 o3.1 o3.2 q to.toNat (by omega)
    rw [this]
    unfold amH
    rw [show ((c.toNat : Nat) : Int) = c by omega, show ((f.toNat : Nat) : Int) = f by omega, show ((to.toNat : Nat) : Int) = to by omega]
  · rw [if_neg q]
    obtain ⟨h1, r1, r2, r3, r4⟩ := e_reckon i.1 d hc0 hc1 hf0 hf1
    have ea : EA h (up h1 39 (8 * c.toNat + f.toNat) ((h 6 2 + 1) * 1000 + h 91 1 * 100 + h 91 2 * 10 + h 91 3 + 1)) := fun a a1 a2 a3 a4 => by rw [up_ne a4, r2 a a1 a2 a3]
    refine ⟨up h1 39 (8 * c.toNat + f.toNat) ((h 6 2 + 1) * 1000 + h 91 1 * 100 + h 91 2 * 10 + h 91 3 + 1), ?_, ea, ea.B i.1, ?_⟩
    · rw [r1, cV_some, up_a (by omega), r3 to.toNat (by omega), show ((to.toNat : Nat) : Int) = to by omega]
    · refine ⟨?_, fun c' f' hc' hf' => by
        rw [ea 2 (by omega) (by omega) (by omega) (by omega)] at hc' hf'
        rw [ea 6 (by omega) (by omega) (by omega) (by omega)]
        obtain ⟨l1, l2, l3, l4, l5, l6, l7⟩ := lg_n i.1.1
        by_cases z : c' = c.toNat ∧ f' = f.toNat
        · obtain ⟨z1, z2⟩ := z
          subst z1; subst z2
          rw [up_s]
          omega
        · rw [up_i (by omega), r2 39 (by omega) (by omega) (by omega)]
          exact i.2.2 c' f' hc' hf'⟩
      intro c' f' hc' hf' lw wd wy dp h1' h2' h3' h4' h5' h6' h7' h8' t ht
      rw [ea 2 (by omega) (by omega) (by omega) (by omega)] at hc' hf'
      rw [ea 6 (by omega) (by omega) (by omega) (by omega)] at h2'
      rw [ea 2 (by omega) (by omega) (by omega) (by omega), ea 17 (by omega) (by omega) (by omega) (by omega), ea 18 (by omega) (by omega) (by omega) (by omega), up_a (by omega)]
      by_cases z : c' = c.toNat ∧ f' = f.toNat
      · obtain ⟨z1, z2⟩ := z
        subst z1; subst z2
        rw [up_s] at h8'
        rw [r3 t ht]
        unfold amH
        rw [show ((c.toNat : Nat) : Int) = c by omega, show ((f.toNat : Nat) : Int) = f by omega]
        have k1 : lw = h 6 2 := by omega
        have k2 : wd = h 91 1 := by omega
        have k3 : wy = h 91 2 := by omega
        have k4 : dp = h 91 3 := by omega
        rw [k1, k2, k3, k4]
      · have fb := (lg_n i.1.1)
        obtain ⟨l1, l2, l3, l4, l5, l6, l7⟩ := fb
        rw [up_i (by omega), r2 39 (by omega) (by omega) (by omega)] at h8'
        rw [r4 _ (by omega)]
        exact i.2.1 c' f' hc' hf' lw wd wy dp h1' h2' h3' h4' h5' h6' h7' h8' t ht
