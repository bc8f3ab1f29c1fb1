/-! the reference's aims -/
theorem resL_pt {h h2 : MH} (e : resL h2 = resL h) {a j : Nat} (r : relL a j = true) : h2 a j = h a j := by
  have := congrFun (congrFun e a) j
  unfold resL at this
  rw [if_pos r, if_pos r] at this
  exact this
def PrX (b b2 : Int) (Ws : Nat → WF) (kc km : Nat) (ac am : List MV) (h : MH) : Prop := ∃ v h1 h2, Run 40 kc 0 ac [] h = some (some (.inl v), h1) ∧ Run 40 km 0 am [] h1 = some (some (.inl v), h2) ∧ InvX b2 Ws h2
theorem Pr_X {b b2 : Int} {Ws : Nat → WF} {kc km : Nat} {ac am : List MV} {h : MH} (i : InvX b Ws h) (q : Pr b b2 kc km ac am h) : PrX b b2 Ws kc km ac am h := by
  obtain ⟨v, h1, h2, q1, q2, q3, q4⟩ := q
  exact ⟨v, h1, h2, q1, q2, ⟨q3, InvL_c (fun a j r _ _ => resL_pt q4 r) i.1.2⟩, InvA_c (fun a j r => resL_pt q4 r) i.2⟩
def EM (h h1 : MH) : Prop := ∀ a j, ¬ (a = 97 ∧ prF_ j) → a ≠ 101 → a ≠ 113 → h1 a j = h a j
theorem EM.rf (h : MH) : EM h h := fun _ _ _ _ _ => rfl
theorem EM.tr {h h1 h2 : MH} (e : EM h h1) (f : EM h1 h2) : EM h h2 := fun a j n1 n2 n3 => (f a j n1 n2 n3).trans (e a j n1 n2 n3)
theorem EM.V {h h1 : MH} (e : EM h h1) : Eqv h h1 := by
  intro a j r
  apply e a j
  · intro z; rw [pr_rel z] at r; cases r
  · intro z; subst z; exact Bool.false_ne_true r
  · intro z; subst z; exact Bool.false_ne_true r
theorem EM.c {h h1 : MH} (e : EM h h1) {a : Nat} (h1' : a ≠ 97) (h2 : a ≠ 101) (h3 : a ≠ 113) : h1 a = h a := funext fun j => e a j (fun z => h1' z.1) h2 h3
theorem EM.m {h h1 : MH} (e : EM h h1) {j : Nat} (hj : ¬ prF_ j) : h1 97 j = h 97 j := e 97 j (fun z => hj z.2) (by omega) (by omega)
theorem EM_pr {h h1 : MH} (e : ∀ a j, ¬ (a = 97 ∧ prF_ j) → a ≠ 101 → h1 a j = h a j) : EM h h1 := fun a j n1 n2 _ => e a j n1 n2
theorem npr {j : Nat} (h : ¬ (j = 5 ∨ j = 8 ∨ j = 9 ∨ j = 10 ∨ j = 11 ∨ j = 12 ∨ j = 13 ∨ j = 14 ∨ j = 17)) : ¬ prF_ j := h
/-- the reference's row: k0 and k1 powders tried, from the highest on -/
def rwF (fo : Nat → Int) (g : Int → Int → Int) (f : Int) (k0 k1 : Nat) (to : Int) : Int := if to = f then 0 else if fo (3 * f).toNat < fo (3 * to).toNat then fsD (g 0) to k0 else fsD (g 1) to k1
def BP (fo : Nat → Int) (G : Nat → Int → Int → Int) (c f : Nat) (n k0 k1 : Nat) (r0 r : Nat → Int) : Prop := (∀ f' to : Nat, f' < 8 → to < 8 → r (64 * c + 8 * f' + to) = if f' < f then rwF fo (G f') f' 20 20 to else if f' = f then rwF fo (G f') f' k0 k1 to else 0) ∧ ∀ j, ¬ (64 * c ≤ j ∧ j < 64 * c + 64) → r j = r0 j
theorem BP_step {fo : Nat → Int} {G : Nat → Int → Int → Int} {c f n k0 k1 : Nat} {r0 r : Nat → Int} {w t : Int} {k : Nat} (q : BP fo G c f n k0 k1 r0 r) (hf : f < 8) (hw : (w = 0 ∧ k = k0) ∨ (w = 1 ∧ k = k1)) (ht : G f w (20 - k : Int) = t) (hb : t = -1 ∨ (0 ≤ t ∧ t < 8)) (g0 : w = 0 → t ≠ -1 → t ≠ f → fo (3 * (f : Int)).toNat < fo (3 * t).toNat) (g1 : w = 1 → t ≠ -1 → t ≠ f → fo (3 * t).toNat < fo (3 * (f : Int)).toNat) : BP fo G c f n (if w = 0 then k0 + 1 else k0) (if w = 0 then k1 else k1 + 1) r0 (if t = -1 ∨ t = f then r else su r (64 * c + 8 * f + t.toNat) (20 - k : Int)) := by
  obtain ⟨q1, q2⟩ := q
  refine ⟨fun f' to hf' hto => ?_, fun j hj => ?_⟩
  · by_cases z0 : f' = f
    · subst z0
      rw [if_neg (c := f' < f') (by omega), if_pos (c := f' = f') rfl]
      have base := q1 f' to hf' hto
      rw [if_neg (c := f' < f') (by omega), if_pos (c := f' = f') rfl] at base
      unfold rwF at base ⊢
      by_cases z1 : (to : Int) = f'
      · rw [if_pos z1] at base ⊢
        by_cases z2 : t = -1 ∨ t = f'
        · rw [if_pos z2]; exact base
        · rw [if_neg z2, su_i (by omega)]; exact base
      · rw [if_neg z1] at base ⊢
        rcases hw with ⟨w0, w1⟩ | ⟨w0, w1⟩
        · subst w0; subst w1
          simp only [if_true]
          have e1 : fsD (G f' 0) to (k + 1) = if G f' 0 (20 - k : Int) = to then (20 - k : Int) else fsD (G f' 0) to k := rfl
          by_cases z3 : fo (3 * (f' : Int)).toNat < fo (3 * (to : Int)).toNat
          · rw [if_pos z3] at base ⊢
            rw [e1, ht]
            by_cases z4 : t = to
            · rw [if_pos z4, if_neg (by omega), z4, show ((to : Int)).toNat = to by omega, su_s]
            · rw [if_neg z4]
              by_cases z2 : t = -1 ∨ t = f'
              · rw [if_pos z2]; exact base
              · rw [if_neg z2, su_i (by omega)]; exact base
          · rw [if_neg z3] at base ⊢
            by_cases z2 : t = -1 ∨ t = f'
            · rw [if_pos z2]; exact base
            · have := g0 rfl (fun y => z2 (Or.inl y)) (fun y => z2 (Or.inr y))
              have : t ≠ to := fun y => by rw [y] at this; omega
              rw [if_neg z2, su_i (by omega)]; exact base
        · subst w0; subst w1
          rw [if_neg (by omega : ¬ (1 : Int) = 0), if_neg (by omega : ¬ (1 : Int) = 0)]
          have e1 : fsD (G f' 1) to (k + 1) = if G f' 1 (20 - k : Int) = to then (20 - k : Int) else fsD (G f' 1) to k := rfl
          by_cases z3 : fo (3 * (f' : Int)).toNat < fo (3 * (to : Int)).toNat
          · rw [if_pos z3] at base ⊢
            by_cases z2 : t = -1 ∨ t = f'
            · rw [if_pos z2]; exact base
            · have := g1 rfl (fun y => z2 (Or.inl y)) (fun y => z2 (Or.inr y))
              have : t ≠ to := fun y => by rw [y] at this; omega
              rw [if_neg z2, su_i (by omega)]; exact base
          · rw [if_neg z3] at base ⊢
            rw [e1, ht]
            by_cases z4 : t = to
            · rw [if_pos z4, if_neg (by omega), z4, show ((to : Int)).toNat = to by omega, su_s]
            · rw [if_neg z4]
              by_cases z2 : t = -1 ∨ t = f'
              · rw [if_pos z2]; exact base
              · rw [if_neg z2, su_i (by omega)]; exact base
    · have base := q1 f' to hf' hto
      rw [if_neg (c := f' = f) z0] at base ⊢
      by_cases z2 : t = -1 ∨ t = f
      · rw [if_pos z2]; exact base
      · rw [if_neg z2, su_i (by omega)]; exact base
  · by_cases z2 : t = -1 ∨ t = f
    · rw [if_pos z2]; exact q2 j hj
    · rw [if_neg z2, su_i (by omega)]; exact q2 j hj
theorem rw_am {Ws : Nat → WF} {lw : Int} {fo ca : Nat → Int} {n c f wd wy dp to : Int} : rwF fo (gwF Ws lw fo ca n c f wd wy dp) f 20 20 to = am0 (amF Ws lw fo ca n c f wd wy dp to) := by
  unfold rwF amF
  by_cases q : to = f
  · rw [if_pos q, if_pos q]; rfl
  · rw [if_neg q, if_neg q]
    split
    · exact fs_eq _ _
    · exact fs_eq _ _
def lyR (Ws : Nat → WF) (h : MH) (c : Int) (r0 r : Nat → Int) : Prop := (∀ f to : Nat, (f : Int) < h 2 3 → to < 8 → r (64 * c.toNat + 8 * f + to) = am0 (amH Ws h c f to)) ∧ ∀ j, ¬ (64 * c.toNat ≤ j ∧ j < 64 * c.toNat + 64) → r j = r0 j
theorem m_layAims {b : Int} {Ws : Nat → WF} {h : MH} (i : InvB b Ws h) (d : Nat) {c : Int} (hc0 : 0 ≤ c) (hc1 : c < h 2 4) :
    ∃ h1, Run (d + 36) 264 0 [vR 97, .inl c, vU, vU, vU, vU] [] h = some (none, h1) ∧ EM h h1 ∧ lyR Ws h c (h 113) (h1 113) := by
  obtain ⟨l1, l2, l3, l4, l5, l6, l7⟩ := lg_n i.1
  have hfp : 0 < h 2 3 := by omega
  have o := nowOK i.1
  have ap := ap_n i.1 hfp
  obtain ⟨-, -, s1, s2, s3, s4, s5, s6⟩ := nowR i.1
  obtain ⟨-, o1, o2, o3, -⟩ := o.1
  have clear : ∀ (k : Nat) (x : Int) (g : MH), 0 ≤ x → x ≤ 64 → (64 - x).toNat = k → (∀ a, a ≠ 113 → g a = h a) → (∀ j : Nat, 64 * c.toNat ≤ j → (j : Int) < 64 * c + x → g 113 j = 0) → (∀ j, ¬ (64 * c.toNat ≤ j ∧ j < 64 * c.toNat + 64) → g 113 j = h 113 j) → ∃ g2, Run (d + 36) 264 2 [vR 97, .inl c, .inl x, vU, vU, vU] [] g = Run (d + 36) 264 28 [vR 97, .inl c, .inl 0, vU, vU, vU] [] g2 ∧ (∀ a, a ≠ 113 → g2 a = h a) ∧ (∀ j : Nat, 64 * c.toNat ≤ j → j < 64 * c.toNat + 64 → g2 113 j = 0) ∧ (∀ j, ¬ (64 * c.toNat ≤ j ∧ j < 64 * c.toNat + 64) → g2 113 j = h 113 j) := by
    intro k
    induction k with
    | zero =>
      intro x g h0 h1 hk e1 e2 e3
      refine ⟨g, ?_, e1, fun j a1 a2 => e2 j a1 (by omega), e3⟩
      rw [q264_2 (hz2 := rfl) (hz3 := rfl) (hz4 := rfl), if_pos (by omega)]
    | succ k ih =>
      intro x g h0 h1 hk e1 e2 e3
      obtain ⟨g2, r1, r2, r3, r4⟩ := ih (x + 1) (up g 113 (64 * c + x).toNat 0) (by omega) (by omega) (by omega) (fun a ha => by rw [up_ne ha]; exact e1 a ha) (fun j a1 a2 => by
        by_cases z : j = (64 * c + x).toNat
        · rw [z, up_s]
        · rw [up_i z]; exact e2 j a1 (by omega)) (fun j hj => by rw [up_i (by omega)]; exact e3 j hj)
      refine ⟨g2, ?_, r2, r3, r4⟩
      rw [← r1, q264_2 (hz2 := rfl) (hz3 := rfl) (hz4 := rfl), if_neg (by omega), wI_ok (x := 64 * c) (by omega) (by omega), wI_ok (x := 64 * c + x) (by omega) (by omega), if_pos (by omega), wI_ok (by omega) (by omega)]
  obtain ⟨g0, r1, r2, r3, r4⟩ := clear _ 0 h (by omega) (by omega) rfl (fun _ _ => rfl) (fun j a1 a2 => by omega) (fun _ _ => rfl)
  let G : Nat → Int → Int → Int := fun f => gwF Ws (h 6 2) (h 17) (h 18) (h 2 3) c f (h 91 1) (h 91 2) (h 91 3)
  -- one shot tried
  have one : ∀ (f k k0 k1 : Nat) (w : Int) (g : MH) (z : MV), cat z = 1 → (f : Int) < h 2 3 → k < 20 → ((w = 0 ∧ k = k0) ∨ (w = 1 ∧ k = k1)) → EM h g → BP (h 17) G c.toNat f 0 k0 k1 (h 113) (g 113) → ∃ g2 z2, cat z2 = 1 ∧ Run (d + 36) 264 46 [vR 97, .inl c, .inl (f : Int), .inl (20 - k : Int), .inl w, z] [] g = Run (d + 36) 264 46 [vR 97, .inl c, .inl (f : Int), .inl (20 - k : Int), .inl (w + 1), z2] [] g2 ∧ EM h g2 ∧ BP (h 17) G c.toNat f 0 (if w = 0 then k0 + 1 else k0) (if w = 0 then k1 else k1 + 1) (h 113) (g2 113) := by
    intro f k k0 k1 w g z hz hf hk hw eg bp
    have ig := eg.V.B i
    have q1 : g 2 = h 2 := eg.c (by omega) (by omega) (by omega)
    have q2 : g 6 = h 6 := eg.c (by omega) (by omega) (by omega)
    have q3 : g 17 = h 17 := eg.c (by omega) (by omega) (by omega)
    have q4 : g 18 = h 18 := eg.c (by omega) (by omega) (by omega)
    have q5 : g 110 = h 110 := eg.c (by omega) (by omega) (by omega)
    obtain ⟨g1, t1, t2⟩ := m_comesTo ig (d := d) (c := c) (f := f) (p := 20 - k) (way := w) hc0 (by rw [q1]; exact hc1) (by omega) (by rw [q1]; exact hf) (by omega) (by omega) (by rw [q5, s2]; exact o1.1) (by rw [q5, s2]; omega) (by rw [q5, s4]; exact o3.1) (by rw [q5, s4]; exact o3.2)
    rw [q2, q3, q4, q5, s2, s3, s4] at t1
    have eg1 : EM h g1 := eg.tr (EM_pr t2)
    have pb := plF_b i (c := c) (f := f) (p := 20 - k) (way := w) (wd := h 91 1) (wy := h 91 2) (dm := h 91 3) hc0 hc1 (by omega) hf
    have ml := m_landsAt (d + 33) (plF Ws (h 6 2) (h 17) (h 18) c f (20 - k) w (h 91 1) (h 91 2) (h 91 3)) (h 2 3) g1 (h 17) (by rw [eg1.m (npr (by omega)), l1]) (by omega) l4 (by omega) (fun f' hf' => by
      rw [eg1.c (by omega) (by omega) (by omega)]
      have := lg_fort i.1 (3 * f') (by omega) (by omega)
      rw [show (3 * (f' : Int)).toNat = 3 * f' by omega] at this
      exact this) (fun f' hf' => fo_n i.1 f' hf') ap
    generalize ht : G f w (20 - k : Int) = t
    have ht2 : ldF (h 17) (h 2 3) (plF Ws (h 6 2) (h 17) (h 18) c f (20 - k) w (h 91 1) (h 91 2) (h 91 3)) = t := ht
    have tb0 := ldF_b (h 17) (h 2 3) (plF Ws (h 6 2) (h 17) (h 18) c f (20 - k) w (h 91 1) (h 91 2) (h 91 3)) l3
    rw [ht2] at ml tb0
    have tb : t = -1 ∨ (0 ≤ t ∧ t < 8) := by omega
    have w01 : w = 0 ∨ w = 1 := by omega
    have s0 : w = 0 → t ≠ -1 → t ≠ f → h 17 (3 * (f : Int)).toNat < h 17 (3 * t).toNat := fun hw0 h1 h2 => by
      subst hw0
      exact (gw_0 ap (by omega) hf ht h1 h2).2
    have s1' : w = 1 → t ≠ -1 → t ≠ f → h 17 (3 * t).toNat < h 17 (3 * (f : Int)).toNat := fun hw0 h1 h2 => by
      subst hw0
      exact (gw_1 ap (by omega) hf ht h1 h2).2
    have bp1 := BP_step bp (by omega) hw ht tb s0 s1'
    have ea : g1 113 = g 113 := funext fun j => t2 _ _ (by omega) (by omega)
    have step : Run (d + 36) 264 46 [vR 97, .inl c, .inl (f : Int), .inl (20 - k : Int), .inl w, z] [] g = Run (d + 36) 264 46 [vR 97, .inl c, .inl (f : Int), .inl (20 - k : Int), .inl (w + 1), .inl t] [] (if t = -1 ∨ t = f then g1 else up g1 113 (64 * c.toNat + 8 * f + t.toNat) (20 - k : Int)) := by
      rw [q264_46 (hz4 := hz), if_neg (by omega), t1, cI_some, ml, cI_some, wI_ok (x := w + 1) (by omega) (by omega)]
      by_cases z1 : t = -1
      · rw [if_pos z1, if_pos (Or.inl z1)]
      · rw [if_neg z1]
        by_cases z2 : t = f
        · rw [if_pos z2, if_pos (Or.inr z2)]
        · rw [if_neg z2, if_neg (c := t = -1 ∨ t = f) (by omega), m_place _ _ _ (by omega) (by omega), cI_some, m_place _ _ _ (by omega) (by omega), cI_some]
          have f1 : g1 104 (3 * t).toNat = h 17 (3 * t).toNat := by
            rw [eg1.c (by omega) (by omega) (by omega)]; exact lg_fort i.1 (3 * t) (by omega) (by omega)
          have f2 : g1 104 (3 * (f : Int)).toNat = h 17 (3 * (f : Int)).toNat := by
            rw [eg1.c (by omega) (by omega) (by omega)]; exact lg_fort i.1 (3 * (f : Int)) (by omega) (by omega)
          have e9 : wI (wI (8 * wI (wI (8 * c) + (f : Int))) + t) = 64 * c + 8 * f + t := by
            rw [wI_ok (x := 8 * c) (by omega) (by omega), wI_ok (x := 8 * c + f) (by omega) (by omega), wI_ok (x := 8 * (8 * c + f)) (by omega) (by omega), wI_ok (by omega) (by omega)]
            omega
          rw [f1, f2]
          rcases w01 with w0 | w0
          · have := s0 w0 z1 z2
            rw [if_neg (by omega), if_neg (fun y => y w0), q264_112, if_neg (by omega), e9, if_pos (by omega), show (64 * c + 8 * (f : Int) + t).toNat = 64 * c.toNat + 8 * f + t.toNat by omega, wI_ok (by omega) (by omega)]
          · have := s1' w0 z1 z2
            rw [if_pos (by omega), if_pos (by omega), q264_112, if_neg (by omega), e9, if_pos (by omega), show (64 * c + 8 * (f : Int) + t).toNat = 64 * c.toNat + 8 * f + t.toNat by omega, wI_ok (by omega) (by omega)]
    refine ⟨_, .inl t, rfl, step, ?_, ?_⟩
    · split
      · exact eg1
      · exact fun a j n1 n2 n3 => by rw [up_a n3]; exact eg1 a j n1 n2 n3
    · rw [← ea] at bp1
      by_cases z : t = -1 ∨ t = f
      · rw [if_pos z] at bp1 ⊢
        exact bp1
      · rw [if_neg z] at bp1 ⊢
        rw [up_row]
        exact bp1
  -- the powders
  have pow : ∀ (r k f : Nat) (g : MH) (z3 z4 : MV), cat z3 = 1 → cat z4 = 1 → (f : Int) < h 2 3 → k + r = 20 → EM h g → BP (h 17) G c.toNat f 0 k k (h 113) (g 113) → ∃ g2 y2 y3 y4, cat y2 = 1 ∧ cat y3 = 1 ∧ cat y4 = 1 ∧ Run (d + 36) 264 39 [vR 97, .inl c, .inl (f : Int), .inl (20 - k : Int), z3, z4] [] g = Run (d + 36) 264 28 [vR 97, .inl c, .inl ((f : Int) + 1), y2, y3, y4] [] g2 ∧ EM h g2 ∧ BP (h 17) G c.toNat f 0 20 20 (h 113) (g2 113) := by
    intro r
    induction r with
    | zero =>
      intro k f g z3 z4 c3 c4 hf hk eg bp
      have : k = 20 := by omega
      subst this
      refine ⟨g, .inl (20 - (20 : Nat) : Int), z3, z4, rfl, c3, c4, ?_, eg, bp⟩
      rw [q264_39 (hz3 := c3) (hz4 := c4), if_pos (by omega), wI_ok (by omega) (by omega)]
    | succ r ih =>
      intro k f g z3 z4 c3 c4 hf hk eg bp
      obtain ⟨g1, y1, d1, u1, e1, b1⟩ := one f k k k 0 g z4 c4 hf (by omega) (Or.inl ⟨rfl, rfl⟩) eg bp
      simp only [if_true] at b1
      obtain ⟨g2, y2, d2, u2, e2, b2⟩ := one f k (k + 1) k 1 g1 y1 d1 hf (by omega) (Or.inr ⟨rfl, rfl⟩) e1 b1
      rw [if_neg (by omega : ¬ (1 : Int) = 0), if_neg (by omega : ¬ (1 : Int) = 0)] at b2
      obtain ⟨g3, x2, x3, x4, v2, v3, v4, w1, w2, w3⟩ := ih (k + 1) f g2 (.inl (1 + 1)) y2 rfl d2 hf (by omega) e2 b2
      refine ⟨g3, x2, x3, x4, v2, v3, v4, ?_, w2, w3⟩
      rw [← w1, q264_39 (hz3 := c3) (hz4 := c4), if_neg (by omega)]
      refine u1.trans (u2.trans ?_)
      rw [q264_46 (hz4 := d2), if_pos (by omega), wI_ok (by omega) (by omega), show (20 - (k : Int) + -1) = 20 - ((k + 1 : Nat) : Int) by omega]
  -- the forts
  have all : ∀ (r f : Nat) (g : MH) (z2 z3 z4 : MV), cat z2 = 1 → cat z3 = 1 → cat z4 = 1 → (f : Int) + r = h 2 3 → EM h g → BP (h 17) G c.toNat f 0 0 0 (h 113) (g 113) → ∃ g2, Run (d + 36) 264 28 [vR 97, .inl c, .inl (f : Int), z2, z3, z4] [] g = some (none, g2) ∧ EM h g2 ∧ BP (h 17) G c.toNat (h 2 3).toNat 0 0 0 (h 113) (g2 113) := by
    intro r
    induction r with
    | zero =>
      intro f g z2 z3 z4 c2 c3 c4 hf eg bp
      refine ⟨g, ?_, eg, ?_⟩
      · rw [q264_28 (hz2 := c2) (hz3 := c3) (hz4 := c4), if_pos (by rw [eg.m (npr (by omega)), l1]; omega)]
      · rw [show (h 2 3).toNat = f by omega]; exact bp
    | succ r ih =>
      intro f g z2 z3 z4 c2 c3 c4 hf eg bp
      obtain ⟨g1, y2, y3, y4, d2, d3, d4, u1, e1, b1⟩ := pow 20 0 f g z3 z4 c3 c4 (by omega) rfl eg bp
      obtain ⟨g2, v1, v2, v3⟩ := ih (f + 1) g1 y2 y3 y4 d2 d3 d4 (by omega) e1 ⟨fun f' to hf' hto => by
          rw [b1.1 f' to hf' hto]
          by_cases z : f' < f
          · rw [if_pos z, if_pos (by omega)]
          · rw [if_neg z]
            by_cases z2 : f' = f
            · subst z2
              rw [if_pos rfl, if_pos (by omega)]
            · rw [if_neg z2, if_neg (by omega)]
              by_cases z3 : f' = f + 1
              · rw [if_pos z3]
                unfold rwF
                split
                · rfl
                · split <;> rfl
              · rw [if_neg z3], b1.2⟩
      refine ⟨g2, ?_, v2, v3⟩
      rw [q264_28 (hz2 := c2) (hz3 := c3) (hz4 := c4), if_neg (by rw [eg.m (npr (by omega)), l1]; omega)]
      refine u1.trans ?_
      rw [show (f : Int) + 1 = ((f + 1 : Nat) : Int) by omega]
      exact v1
  obtain ⟨g2, v1, v2, v3⟩ := all (h 2 3).toNat 0 g0 vU vU vU rfl rfl rfl (by omega) (fun a j _ _ n3 => by rw [r2 a n3]) ⟨fun f' to hf' hto => by
      rw [r3 _ (by omega) (by omega), if_neg (by omega)]
      split
      · unfold rwF
        split
        · rfl
        · split <;> rfl
      · rfl, r4⟩
  refine ⟨g2, ?_, v2, fun f to hf ht => ?_, v3.2⟩
  · rw [q264_0]
    exact r1.trans v1
  · rw [v3.1 f to (by omega) ht, if_pos (by omega)]
    exact rw_am
theorem m_aimOf (d : Nat) (h : MH) {c f to : Int} (hc0 : 0 ≤ c) (hc1 : c < 5) (hf0 : 0 ≤ f) (hf1 : f < 8) (ht0 : 0 ≤ to) (ht1 : to < 8) : Run d 265 0 [vR 97, .inl c, .inl f, .inl to] [] h = some (some (.inl (h 113 (64 * c.toNat + 8 * f.toNat + to.toNat))), h) := by
  have e9 : wI (wI (8 * wI (wI (8 * c) + f)) + to) = 64 * c + 8 * f + to := by
    rw [wI_ok (x := 8 * c) (by omega) (by omega), wI_ok (x := 8 * c + f) (by omega) (by omega), wI_ok (x := 8 * (8 * c + f)) (by omega) (by omega), wI_ok (by omega) (by omega)]
    omega
  rw [q265_0, e9, if_pos (by omega), show (64 * c + 8 * f + to).toNat = 64 * c.toNat + 8 * f.toNat + to.toNat by omega]
