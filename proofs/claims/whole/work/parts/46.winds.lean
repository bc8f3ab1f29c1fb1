/-! winds that fit what was seen; what to shoot next -/
def ftF (P S : Nat → Int) : Nat → Bool
  | 0 => true
  | k + 1 => ftF P S k && decide (P k = S (5 * k + 4))
theorem ftF_false {P S : Nat → Int} {j : Nat} (h : ¬ P j = S (5 * j + 4)) : ∀ n, j < n → ftF P S n = false
  | 0, q => by omega
  | n + 1, q => by
    unfold ftF
    by_cases z : j = n
    · subst z; simp [h]
    · rw [ftF_false h n (by omega)]; rfl
/-- the place of the k-th sight, by a wind's code -/
def spF (Ws : Nat → WF) (h : MH) (code : Int) (k : Nat) : Int := plF Ws (h 6 2) (h 17) (h 18) (h 46 (5 * k)) (h 46 (5 * k + 1)) (h 46 (5 * k + 2)) (h 46 (5 * k + 3)) (code % 10) (code / 10) 0
def exF (Ws : Nat → WF) (h : MH) (code : Int) : Bool := ftF (spF Ws h code) (h 46) (h 10 2).toNat
def pfF (Ws : Nat → WF) (h : MH) (code : Nat) : Bool := !decide (code = 10) && exF Ws h code
def EG (h h1 : MH) : Prop := ∀ a j, a ≠ 23 → a ≠ 30 → a ≠ 45 → a ≠ 47 → ¬ (a = 10 ∧ j = 1) → h1 a j = h a j
theorem EG.rf (h : MH) : EG h h := fun _ _ _ _ _ _ _ => rfl
theorem EG.tr {h h1 h2 : MH} (e : EG h h1) (f : EG h1 h2) : EG h h2 := fun a j n1 n2 n3 n4 n5 => (f a j n1 n2 n3 n4 n5).trans (e a j n1 n2 n3 n4 n5)
theorem EG.V {h h1 : MH} (e : EG h h1) : Eqv h h1 := by
  intro a j r
  apply e a j
  · intro z; subst z; exact Bool.false_ne_true r
  · intro z; subst z; exact Bool.false_ne_true r
  · intro z; subst z; exact Bool.false_ne_true r
  · intro z; subst z; exact Bool.false_ne_true r
  · rintro ⟨z1, z2⟩; subst z1; subst z2; exact Bool.false_ne_true r
theorem EG_ll {h h1 : MH} (e : ∀ a, a ≠ 23 → a ≠ 30 → h1 a = h a) : EG h h1 := fun a j n1 n2 _ _ _ => by rw [e a n1 n2]
theorem Eqv.pf {Ws : Nat → WF} {h h1 : MH} (e : Eqv h h1) : exF Ws h1 = exF Ws h := by
  obtain ⟨t1, t2, t3, t4, t5, t6, t7⟩ := e.dat
  have t8 : h1 46 = h 46 := funext fun j => e _ _ rfl
  funext code
  unfold exF
  have : spF Ws h1 code = spF Ws h code := by
    funext k
    unfold spF
    rw [t1, t2, t3, t8]
  rw [this, t8, e 10 2 rfl]
theorem sg_n {b : Int} {h : MH} (i : Inv0 b h) : (h 97 46 = h 10 2 ∧ 0 ≤ h 10 2 ∧ h 10 2 ≤ 10) ∧ (∀ i : Nat, (i : Int) < h 10 2 → (∀ w, w < 5 → h 115 (5 * i + w) = h 46 (5 * i + w)) ∧ (0 ≤ h 46 (5 * i) ∧ h 46 (5 * i) < h 2 4) ∧ (0 ≤ h 46 (5 * i + 1) ∧ h 46 (5 * i + 1) < h 2 3) ∧ (1 ≤ h 46 (5 * i + 2) ∧ h 46 (5 * i + 2) ≤ 20) ∧ (h 46 (5 * i + 3) = 0 ∨ h 46 (5 * i + 3) = 1) ∧ (-60 ≤ h 46 (5 * i + 4) ∧ h 46 (5 * i + 4) ≤ 100)) := by
  obtain ⟨-, -, -, -, -, ⟨t1, t2, t3, t4⟩, -⟩ := (Inv0_iff b h).mp i
  exact ⟨t1, t3⟩
theorem e_reachBy {b : Int} {Ws : Nat → WF} {h : MH} (i : InvB b Ws h) (d : Nat) {code c f p way : Int} (hk0 : 0 ≤ code) (hk1 : code < 20) (hc0 : 0 ≤ c) (hc1 : c < h 2 4) (hf0 : 0 ≤ f) (hf1 : f < h 2 3) (hp0 : 1 ≤ p) (hp1 : p ≤ 20) :
    ∃ h1, Run (d + 4) 152 0 [vR 10, .inl code, .inl c, .inl f, .inl p, .inl way] [] h = some (some (.inl (rcF Ws (h 6 2) (h 17) (h 18) c f p (alF (code % 10) (code / 10) way) 0)), h1) ∧ ∀ a, a ≠ 23 → a ≠ 30 → h1 a = h a := by
  have ha := al_b (wd := code % 10) (wy := code / 10) (way := way) (by omega) (by omega)
  obtain ⟨h1, r1, r2⟩ := e_reach i d hc0 hc1 hf0 hf1 hp0 hp1 ha.1 ha.2 (Int.le_refl 0) (by omega)
  refine ⟨h1, ?_, r2⟩
  rw [q152_0, Int.tmod_eq_emod_of_nonneg hk0, Int.tdiv_eq_ediv_of_nonneg hk0, wI_ok (x := code / 10) (by omega) (by omega), e_along _ _ _ _ _ (by omega) (by omega), cI_some, r1, cI_some]
theorem e_explains {b : Int} {Ws : Nat → WF} {h : MH} (i : InvB b Ws h) (d : Nat) {code : Int} (hk0 : 0 ≤ code) (hk1 : code < 20) :
    ∃ h1, Run (d + 5) 151 0 [vR 10, .inl code, vU, vU, vU, vU, vU] [] h = some (some (.inl (bi (exF Ws h code = true))), h1) ∧ ∀ a, a ≠ 23 → a ≠ 30 → h1 a = h a := by
  obtain ⟨⟨s0, s1, s2⟩, s3⟩ := sg_n i.1
  have key : ∀ (r k : Nat) (g : MH) (z2 z3 z4 z5 : MV), cat z2 = 1 → cat z3 = 1 → cat z4 = 1 → cat z5 = 1 → (k : Int) + r = h 10 2 → (∀ a, a ≠ 23 → a ≠ 30 → g a = h a) → ftF (spF Ws h code) (h 46) k = true → ∃ g2, Run (d + 5) 151 2 [vR 10, .inl code, .inl (k : Int), z2, z3, z4, z5] [] g = some (some (.inl (bi (exF Ws h code = true))), g2) ∧ ∀ a, a ≠ 23 → a ≠ 30 → g2 a = h a := by
    intro r
    induction r with
    | zero =>
      intro k g z2 z3 z4 z5 c2 c3 c4 c5 hk eg hf
      refine ⟨g, ?_, eg⟩
      rw [q151_2 (hz2 := c2) (hz3 := c3) (hz4 := c4) (hz5 := c5), if_pos (by rw [eg _ (by omega) (by omega)]; omega), bi_t]
      unfold exF
      rw [show (h 10 2).toNat = k by omega]
      exact hf
    | succ r ih =>
      intro k g z2 z3 z4 z5 c2 c3 c4 c5 hk eg hf
      obtain ⟨t0, t1, t2, t3, t4, t5⟩ := s3 k (by omega)
      have eq : Eqv h g := Eqv_ll eg
      have ig := eq.B i
      obtain ⟨d1, d2, d3, d4, d5, d6, d7⟩ := eq.dat
      have q1 : g 46 = h 46 := eg _ (by omega) (by omega)
      have q2 : g 10 = h 10 := eg _ (by omega) (by omega)
      obtain ⟨g1, r1, r2⟩ := e_reachBy ig d (code := code) (c := h 46 (5 * k)) (f := h 46 (5 * k + 1)) (p := h 46 (5 * k + 2)) (way := h 46 (5 * k + 3)) hk0 hk1 t1.1 (by omega) t2.1 (by omega) t3.1 t3.2
      rw [d1, d2, d3] at r1
      have hb := rcF_b Ws (h 6 2) (h 17) (h 18) (h 46 (5 * k)) (h 46 (5 * k + 1)) (h 46 (5 * k + 2)) (alF (code % 10) (code / 10) (h 46 (5 * k + 3))) 0
      obtain ⟨-, ⟨n3, n4⟩, n5, n6⟩ := cf_n i.1 t1.1 t1.2 t2.1 t2.2
      have e5 : wI ((k : Int) * 5) = 5 * (k : Int) := by rw [wI_ok (by omega) (by omega)]; omega
      have q3 : g1 17 = h 17 := by rw [r2 _ (by omega) (by omega), eg _ (by omega) (by omega)]
      have q4 : g1 46 = h 46 := by rw [r2 _ (by omega) (by omega), q1]
      have ep : (if h 46 (5 * k + 3) = 0 then h 17 (3 * h 46 (5 * k + 1)).toNat + rcF Ws (h 6 2) (h 17) (h 18) (h 46 (5 * k)) (h 46 (5 * k + 1)) (h 46 (5 * k + 2)) (alF (code % 10) (code / 10) (h 46 (5 * k + 3))) 0 else h 17 (3 * h 46 (5 * k + 1)).toNat - rcF Ws (h 6 2) (h 17) (h 18) (h 46 (5 * k)) (h 46 (5 * k + 1)) (h 46 (5 * k + 2)) (alF (code % 10) (code / 10) (h 46 (5 * k + 3))) 0) = spF Ws h code k := rfl
      generalize hR : rcF Ws (h 6 2) (h 17) (h 18) (h 46 (5 * k)) (h 46 (5 * k + 1)) (h 46 (5 * k + 2)) (alF (code % 10) (code / 10) (h 46 (5 * k + 3))) 0 = R at r1 hb ep
      have step : Run (d + 5) 151 2 [vR 10, .inl code, .inl (k : Int), z2, z3, z4, z5] [] g = if spF Ws h code k = h 46 (5 * k + 4) then Run (d + 5) 151 2 [vR 10, .inl code, .inl ((k : Int) + 1), .inl (5 * (k : Int)), .inl (h 46 (5 * k + 1)), .inl (h 46 (5 * k + 3)), .inl R] [] g1 else some (some (.inl 0), g1) := by
        rw [q151_2 (hz2 := c2) (hz3 := c3) (hz4 := c4) (hz5 := c5), q2, q1, if_neg (by omega), e5, wI_ok (x := 5 * (k : Int) + 1) (by omega) (by omega), wI_ok (x := 5 * (k : Int) + 2) (by omega) (by omega), wI_ok (x := 5 * (k : Int) + 3) (by omega) (by omega), wI_ok (x := 5 * (k : Int) + 4) (by omega) (by omega), wI_ok (x := (k : Int) + 1) (by omega) (by omega), if_pos (by omega), if_pos (by omega), if_pos (by omega), if_pos (by omega), show (5 * (k : Int)).toNat = 5 * k by omega, show (5 * (k : Int) + 1).toNat = 5 * k + 1 by omega, show (5 * (k : Int) + 2).toNat = 5 * k + 2 by omega, show (5 * (k : Int) + 3).toNat = 5 * k + 3 by omega, show (5 * (k : Int) + 4).toNat = 5 * k + 4 by omega, r1, cI_some, e_place _ _ _ t2.1 n6, cI_some, q3, e_comeTo _ _ _ _ _ (by omega) (by omega) hb.1 hb.2, cI_some, ep, if_pos (by omega), q4]
      have eg1 : ∀ a, a ≠ 23 → a ≠ 30 → g1 a = h a := fun a n1 n2 => by rw [r2 a n1 n2, eg a n1 n2]
      rw [step]
      by_cases z : spF Ws h code k = h 46 (5 * k + 4)
      · rw [if_pos z, show (k : Int) + 1 = ((k + 1 : Nat) : Int) by omega]
        refine ih (k + 1) g1 _ _ _ _ rfl rfl rfl rfl (by omega) eg1 ?_
        unfold ftF
        rw [hf, z]
        simp
      · rw [if_neg z]
        refine ⟨g1, ?_, eg1⟩
        rw [bi_f]
        unfold exF
        rw [ftF_false z _ (by omega)]
        exact Bool.false_ne_true
  rw [q151_0]
  exact key (h 10 2).toNat 0 h vU vU vU vU rfl rfl rfl rfl (by omega) (fun _ _ _ => rfl) rfl
theorem m_fits {b : Int} {Ws : Nat → WF} {h : MH} (i : InvB b Ws h) (d : Nat) {code : Nat} (hk1 : code < 20) :
    ∃ h1, Run (d + 35) 279 0 [vR 97, .inl (code : Int), vU] [] h = some (some (.inl (bi (pfF Ws h code = true))), h1) ∧ ∀ a j, ¬ (a = 97 ∧ prF_ j) → a ≠ 101 → h1 a j = h a j := by
  obtain ⟨⟨s0, s1, s2⟩, s3⟩ := sg_n i.1
  rw [q279_0]
  by_cases q10 : code = 10
  · refine ⟨h, ?_, fun _ _ _ _ => rfl⟩
    rw [if_neg (by omega), bi_f]
    unfold pfF
    simp [q10]
  · rw [if_pos (by omega)]
    have ep : (pfF Ws h code = true) = (exF Ws h code = true) := by
      unfold pfF
      simp [q10]
    have key : ∀ (r k : Nat) (g : MH), (k : Int) + r = h 10 2 → (∀ a j, ¬ (a = 97 ∧ prF_ j) → a ≠ 101 → g a j = h a j) → ftF (spF Ws h code) (h 46) k = true → ∃ g2, Run (d + 35) 279 10 [vR 97, .inl (code : Int), .inl (k : Int)] [] g = some (some (.inl (bi (exF Ws h code = true))), g2) ∧ ∀ a j, ¬ (a = 97 ∧ prF_ j) → a ≠ 101 → g2 a j = h a j := by
      intro r
      induction r with
      | zero =>
        intro k g hk eg hf
        refine ⟨g, ?_, eg⟩
        rw [q279_10, if_pos (by rw [eg _ _ (fun z => npr (by omega) z.2) (by omega), s0]; omega), bi_t]
        unfold exF
        rw [show (h 10 2).toNat = k by omega]
        exact hf
      | succ r ih =>
        intro k g hk eg hf
        obtain ⟨t0, t1, t2, t3, t4, t5⟩ := s3 k (by omega)
        have eq : Eqv h g := Eqv_pr eg
        have ig := eq.B i
        obtain ⟨d1, d2, d3, d4, d5, d6, d7⟩ := eq.dat
        have q1 : ∀ w, w < 5 → g 115 (5 * k + w) = h 46 (5 * k + w) := fun w hw => by rw [eg _ _ (by omega) (by omega)]; exact t0 w hw
        have q1' : g 115 (5 * k) = h 46 (5 * k) := q1 0 (by omega)
        obtain ⟨g1, r1, r2⟩ := m_placeBy ig d (c := h 46 (5 * k)) (f := h 46 (5 * k + 1)) (p := h 46 (5 * k + 2)) (way := h 46 (5 * k + 3)) (wd := (code : Int) % 10) (wy := (code : Int) / 10) (dm := 0) t1.1 (by omega) t2.1 (by omega) t3.1 t3.2 (by omega) (by omega) (by omega) (by omega)
        rw [d1, d2, d3] at r1
        have r1' : Run (d + 34) 232 0 [vR 97, .inl (h 46 (5 * k)), .inl (h 46 (5 * k + 1)), .inl (h 46 (5 * k + 2)), .inl (h 46 (5 * k + 3)), .inl ((code : Int) % 10), .inl ((code : Int) / 10), .inl 0, vU] [] g = some (some (.inl (spF Ws h code k)), g1) := r1
        have eg1 : ∀ a j, ¬ (a = 97 ∧ prF_ j) → a ≠ 101 → g1 a j = h a j := fun a j n1 n2 => by rw [r2 a j n1 n2, eg a j n1 n2]
        have q4 : g1 115 (5 * k + 4) = h 46 (5 * k + 4) := by rw [r2 _ _ (by omega) (by omega)]; exact q1 4 (by omega)
        have step : Run (d + 35) 279 10 [vR 97, .inl (code : Int), .inl (k : Int)] [] g = if spF Ws h code k = h 46 (5 * k + 4) then Run (d + 35) 279 10 [vR 97, .inl (code : Int), .inl ((k : Int) + 1)] [] g1 else some (some (.inl 0), g1) := by
          rw [q279_10, if_neg (by rw [eg _ _ (fun z => npr (by omega) z.2) (by omega), s0]; omega), Int.tmod_eq_emod_of_nonneg (by omega), Int.tdiv_eq_ediv_of_nonneg (by omega), wI_ok (x := (code : Int) / 10) (by omega) (by omega), wI_ok (x := 5 * (k : Int)) (by omega) (by omega), wI_ok (x := 5 * (k : Int) + 1) (by omega) (by omega), wI_ok (x := 5 * (k : Int) + 2) (by omega) (by omega), wI_ok (x := 5 * (k : Int) + 3) (by omega) (by omega), wI_ok (x := 5 * (k : Int) + 4) (by omega) (by omega), wI_ok (x := (k : Int) + 1) (by omega) (by omega), if_pos (by omega), if_pos (by omega), if_pos (by omega), if_pos (by omega), show (5 * (k : Int)).toNat = 5 * k by omega, show (5 * (k : Int) + 1).toNat = 5 * k + 1 by omega, show (5 * (k : Int) + 2).toNat = 5 * k + 2 by omega, show (5 * (k : Int) + 3).toNat = 5 * k + 3 by omega, show (5 * (k : Int) + 4).toNat = 5 * k + 4 by omega, q1', q1 1 (by omega), q1 2 (by omega), q1 3 (by omega), r1', cI_some, if_pos (by omega), q4]
        rw [step]
        by_cases z : spF Ws h code k = h 46 (5 * k + 4)
        · rw [if_pos z, show (k : Int) + 1 = ((k + 1 : Nat) : Int) by omega]
          refine ih (k + 1) g1 (by omega) eg1 ?_
          unfold ftF
          rw [hf, z]
          simp
        · rw [if_neg z]
          refine ⟨g1, ?_, eg1⟩
          rw [bi_f]
          unfold exF
          rw [ftF_false z _ (by omega)]
          exact Bool.false_ne_true
    obtain ⟨g2, u1, u2⟩ := key (h 10 2).toNat 0 h (by omega) (fun _ _ _ _ => rfl) rfl
    refine ⟨g2, ?_, u2⟩
    have u1' : Run (d + 35) 279 10 [vR 97, .inl (code : Int), .inl 0] [] h = some (some (.inl (bi (exF Ws h code = true))), g2) := u1
    rw [u1', bi_congr (c := pfF Ws h code = true) (e := exF Ws h code = true) (by rw [ep])]
/-- how many of the codes below n fit -/
def cnF (p : Nat → Bool) : Nat → Nat
  | 0 => 0
  | n + 1 => if p n = true then cnF p n + 1 else cnF p n
theorem cnF_le (p : Nat → Bool) : ∀ n, cnF p n ≤ n
  | 0 => Nat.le_refl 0
  | n + 1 => by
    have := cnF_le p n
    unfold cnF
    split <;> omega
theorem cnF_add (p : Nat → Bool) (n : Nat) : ∀ d, cnF p n ≤ cnF p (n + d)
  | 0 => Nat.le_refl _
  | d + 1 => by
    have h1 := cnF_add p n d
    have h2 : cnF p (n + d) ≤ cnF p (n + (d + 1)) := by
      rw [← Nat.add_assoc]
      conv => rhs; unfold cnF
      split <;> omega
    omega
theorem cnF_mono (p : Nat → Bool) {n m : Nat} (h : n ≤ m) : cnF p n ≤ cnF p m := by
  have := cnF_add p n (m - n)
  rw [show n + (m - n) = m by omega] at this
  exact this
theorem cnF_lt (p : Nat → Bool) {n m : Nat} (h : n < m) (hp : p n = true) : cnF p n < cnF p m := by
  have a : cnF p (n + 1) = cnF p n + 1 := by
    conv => lhs; unfold cnF
    rw [if_pos hp]
  have := cnF_mono p (n := n + 1) (m := m) h
  omega
/-- the codes that fit are laid down -/
def fitR (p : Nat → Bool) (n : Nat) (h : MH) : Prop := h 10 1 = cnF p n ∧ ∀ k, k < n → p k = true → h 45 (cnF p k) = k
theorem e_weighWinds {b : Int} {Ws : Nat → WF} {h : MH} (i : InvB b Ws h) (d : Nat) : ∃ h1, Run (d + 6) 150 0 [vR 10, vU] [] h = some (none, h1) ∧ EG h h1 ∧ fitR (pfF Ws h) 20 h1 := by
  have key : ∀ (r k : Nat) (g : MH), k + r = 20 → EG h g → fitR (pfF Ws h) k g → ∃ g2, Run (d + 6) 150 7 [vR 10, .inl (k : Int)] [] g = some (none, g2) ∧ EG h g2 ∧ fitR (pfF Ws h) 20 g2 := by
    intro r
    induction r with
    | zero =>
      intro k g hk eg hf
      have : k = 20 := by omega
      subst this
      exact ⟨g, by rw [q150_7, if_pos (by omega)], eg, hf⟩
    | succ r ih =>
      intro k g hk eg hf
      have cl := cnF_le (pfF Ws h) k
      by_cases z10 : k = 10
      · obtain ⟨g2, u1, u2, u3⟩ := ih (k + 1) g (by omega) eg ⟨by
            rw [hf.1]
            conv => rhs; unfold cnF
            rw [if_neg (by unfold pfF; simp [z10])], fun j hj hp => by
            by_cases zj : j = k
            · subst zj; unfold pfF at hp; simp [z10] at hp
            · exact hf.2 j (by omega) hp⟩
        refine ⟨g2, ?_, u2, u3⟩
        rw [← u1, q150_7, if_neg (by omega), if_pos (by omega), wI_ok (by omega) (by omega), show (k : Int) + 1 = ((k + 1 : Nat) : Int) by omega]
      · obtain ⟨g1, r1, r2⟩ := e_explains (eg.V.B i) d (code := (k : Int)) (by omega) (by omega)
        rw [eg.V.pf] at r1
        have ep : (pfF Ws h k = true) = (exF Ws h k = true) := by
          unfold pfF
          simp [z10]
        have eg1 := eg.tr (EG_ll r2)
        have f1 : g1 10 = g 10 := r2 _ (by omega) (by omega)
        have f2 : g1 45 = g 45 := r2 _ (by omega) (by omega)
        by_cases zp : exF Ws h k = true
        · obtain ⟨g2, u1, u2, u3⟩ := ih (k + 1) (up (up g1 45 (cnF (pfF Ws h) k) (k : Int)) 10 1 (cnF (pfF Ws h) k + 1)) (by omega) (fun a j n1 n2 n3 n4 n5 => by
              by_cases za : a = 10
              · subst za
                rw [up_i (fun z => n5 ⟨rfl, z⟩), up_a (by omega)]; exact eg1 _ j n1 n2 n3 n4 n5
              · rw [up_a za, up_a n3]; exact eg1 a j n1 n2 n3 n4 n5) ⟨by
              rw [up_s]
              conv => rhs; unfold cnF
              rw [if_pos (by rw [ep]; exact zp)]
              omega, fun j hj hp => by
              rw [up_a (by omega)]
              by_cases zj : j = k
              · subst zj; rw [up_s]
              · have := cnF_lt (pfF Ws h) (n := j) (m := k) (by omega) hp
                rw [up_i (by omega), f2]
                exact hf.2 j (by omega) hp⟩
          refine ⟨g2, ?_, u2, u3⟩
          rw [← u1, q150_7, if_neg (by omega), if_neg (by omega), r1, cI_some, bi_t zp, if_neg (by omega), f1, hf.1, if_pos (by omega), wI_ok (x := (k : Int) + 1) (by omega) (by omega), up_a (by omega), f1, hf.1, wI_ok (by omega) (by omega), show (k : Int) + 1 = ((k + 1 : Nat) : Int) by omega, show ((cnF (pfF Ws h) k : Nat) : Int).toNat = cnF (pfF Ws h) k by omega]
        · obtain ⟨g2, u1, u2, u3⟩ := ih (k + 1) g1 (by omega) eg1 ⟨by
              rw [f1, hf.1]
              conv => rhs; unfold cnF
              rw [if_neg (by rw [ep]; exact zp)], fun j hj hp => by
              by_cases zj : j = k
              · subst zj; rw [ep] at hp; exact absurd hp zp
              · rw [f2]; exact hf.2 j (by omega) hp⟩
          refine ⟨g2, ?_, u2, u3⟩
          rw [← u1, q150_7, if_neg (by omega), if_neg (by omega), r1, cI_some, bi_f zp, if_pos rfl, wI_ok (by omega) (by omega), show (k : Int) + 1 = ((k + 1 : Nat) : Int) by omega]
  rw [q150_0]
  refine key 20 0 (up h 10 1 0) rfl (fun a j n1 n2 n3 n4 n5 => ?_) ⟨up_s _ _ _ _, fun k hk => by omega⟩
  by_cases za : a = 10
  · subst za; exact up_i (fun z => n5 ⟨rfl, z⟩)
  · exact up_a za
theorem cn_find (p : Nat → Bool) : ∀ (n : Nat) (i : Nat), i < cnF p n → ∃ k, k < n ∧ p k = true ∧ cnF p k = i
  | 0, i, h => by unfold cnF at h; omega
  | n + 1, i, h => by
    unfold cnF at h
    by_cases q : p n = true
    · rw [if_pos q] at h
      by_cases z : i = cnF p n
      · exact ⟨n, by omega, q, z.symm⟩
      · obtain ⟨k, k1, k2, k3⟩ := cn_find p n i (by omega)
        exact ⟨k, by omega, k2, k3⟩
    · rw [if_neg q] at h
      obtain ⟨k, k1, k2, k3⟩ := cn_find p n i h
      exact ⟨k, by omega, k2, k3⟩
theorem c_winds {b : Int} {Ws : Nat → WF} {h : MH} (i : InvX b Ws h) (x : Int) : PrX b b Ws 149 278 [vR 0, .inl x] [vR 97, .inl x, vU, vU] h := by
  obtain ⟨l1, l2, l3, l4, l5, l6, l7⟩ := lg_n i.1.1
  by_cases q : 0 < h 2 3
  · obtain ⟨h1, r1, e1, f1, f2⟩ := e_weighWinds i.1 33
    have e2 : Eqv h (up h1 97 0 0) := e1.V.tr (Eqv.up rfl)
    have u26 : up h1 97 0 0 97 26 = h 2 3 := by rw [e2 97 _ rfl, l1]
    have cl := cnF_le (pfF Ws h) 20
    -- the reference
    have ref : -1 ≤ x → ∃ h2, Run 40 278 23 [vR 97, .inl x, .inl 0, .inl 0] [] (up h1 97 0 0) = some (some (.inl (if x = -1 then (cnF (pfF Ws h) 20 : Int) else if x < cnF (pfF Ws h) 20 then h1 45 x.toNat else -1)), h2) ∧ Eqv h h2 := by
      intro hx
      have key : ∀ (r k : Nat) (g : MH), k + r = 20 → Eqv h g → (x = -1 ∨ (cnF (pfF Ws h) k : Int) ≤ x) → ∃ g2, Run 40 278 23 [vR 97, .inl x, .inl (cnF (pfF Ws h) k : Int), .inl (k : Int)] [] g = some (some (.inl (if x = -1 then (cnF (pfF Ws h) 20 : Int) else if x < cnF (pfF Ws h) 20 then h1 45 x.toNat else -1)), g2) ∧ Eqv h g2 := by
        intro r
        induction r with
        | zero =>
          intro k g hk eg hx2
          have : k = 20 := by omega
          subst this
          refine ⟨g, ?_, eg⟩
          rw [q278_23, if_pos (by omega)]
          by_cases z : x = -1
          · rw [if_neg (fun y => y z), if_pos z]
          · rw [if_pos z, if_neg z, if_neg (by omega)]
        | succ r ih =>
          intro k g hk eg hx2
          have ck := cnF_le (pfF Ws h) k
          obtain ⟨g1, s1, s2⟩ := m_fits (eg.B i.1) 4 (code := k) (by omega)
          have ep : pfF Ws g k = pfF Ws h k := by unfold pfF; rw [eg.pf]
          rw [ep] at s1
          have eg1 := eg.tr (Eqv_pr s2)
          by_cases zp : pfF Ws h k = true
          · have c1 : cnF (pfF Ws h) (k + 1) = cnF (pfF Ws h) k + 1 := by
              conv => lhs; unfold cnF
              rw [if_pos zp]
            by_cases zx : (cnF (pfF Ws h) k : Int) = x
            · refine ⟨g1, ?_, eg1⟩
              have := cnF_lt (pfF Ws h) (n := k) (m := 20) (by omega) zp
              rw [q278_23, if_neg (by omega), s1, cI_some, bi_t zp, if_pos (by omega), if_neg (fun y => y zx), if_neg (by omega), if_pos (by omega), show x.toNat = cnF (pfF Ws h) k by omega, f2 k (by omega) zp]
            · obtain ⟨g2, u1, u2⟩ := ih (k + 1) g1 (by omega) eg1 (by omega)
              refine ⟨g2, ?_, u2⟩
              rw [← u1, c1, q278_23, if_neg (by omega), s1, cI_some, bi_t zp, if_pos (by omega), if_pos zx, wI_ok (by omega) (by omega), wI_ok (by omega) (by omega), show (k : Int) + 1 = ((k + 1 : Nat) : Int) by omega, show (cnF (pfF Ws h) k : Int) + 1 = ((cnF (pfF Ws h) k + 1 : Nat) : Int) by omega]
          · have c1 : cnF (pfF Ws h) (k + 1) = cnF (pfF Ws h) k := by
              conv => lhs; unfold cnF
              rw [if_neg zp]
            obtain ⟨g2, u1, u2⟩ := ih (k + 1) g1 (by omega) eg1 (by rw [c1]; exact hx2)
            refine ⟨g2, ?_, u2⟩
            rw [← u1, c1, q278_23, if_neg (by omega), s1, cI_some, bi_f zp, if_neg (by omega), wI_ok (by omega) (by omega), show (k : Int) + 1 = ((k + 1 : Nat) : Int) by omega]
      have := key 20 0 (up h1 97 0 0) rfl e2 (by unfold cnF; omega)
      exact this
    by_cases hx : -1 ≤ x
    · obtain ⟨h2, s1, s2⟩ := ref hx
      refine ⟨if x = -1 then (cnF (pfF Ws h) 20 : Int) else if x < cnF (pfF Ws h) 20 then h1 45 x.toNat else -1, h1, h2, ?_, ?_, s2.X i⟩
      · rw [q149_0, e_isTold, cI_some, bi_t q, if_pos (by omega), r1, cV_some, f1]
        by_cases z : x = -1
        · rw [if_neg (fun y => y z), if_pos z]
        · rw [if_pos z, if_neg z, if_neg (by omega)]
          by_cases z2 : x < cnF (pfF Ws h) 20
          · rw [if_neg (by omega), if_pos (by omega), if_pos z2]
          · rw [if_pos (by omega), if_neg z2]
      · rw [q278_0, if_neg (by rw [u26]; omega), if_pos hx]
        exact s1
    · refine ⟨-1, h1, up h1 97 0 0, ?_, ?_, e2.X i⟩
      · rw [q149_0, e_isTold, cI_some, bi_t q, if_pos (by omega), r1, cV_some, if_pos (by omega), if_pos (by omega)]
      · rw [q278_0, if_neg (by rw [u26]; omega), if_neg hx]
  · refine Pr_X i (Pr_no i.1.1 (v := -1) ?_ ?_)
    · rw [q149_0, e_isTold, cI_some, bi_f q, if_neg (by omega)]
    · rw [q278_0, if_pos (by rw [up_i (by omega), l1]; omega)]
/-! what to shoot next -/
/-- the codes below n that fit, counted by how far one flies; the most together -/
def tlF (rc : Nat → Int) (p : Nat → Bool) : Nat → (Nat → Int) × Int
  | 0 => (fun _ => 0, 0)
  | n + 1 => if p n = true then (su (tlF rc p n).1 (rc n).toNat ((tlF rc p n).1 (rc n).toNat + 1), mx (tlF rc p n).2 ((tlF rc p n).1 (rc n).toNat + 1)) else tlF rc p n
theorem tlF_b (rc : Nat → Int) (p : Nat → Bool) : ∀ n, (∀ j, 0 ≤ (tlF rc p n).1 j ∧ (tlF rc p n).1 j ≤ cnF p n) ∧ 0 ≤ (tlF rc p n).2 ∧ (tlF rc p n).2 ≤ cnF p n
  | 0 => ⟨fun j => ⟨Int.le_refl 0, Int.le_refl 0⟩, Int.le_refl 0, Int.le_refl 0⟩
  | n + 1 => by
    obtain ⟨h1, h2, h3⟩ := tlF_b rc p n
    unfold tlF cnF
    by_cases q : p n = true
    · rw [if_pos q, if_pos q]
      have a := h1 (rc n).toNat
      refine ⟨fun j => ?_, ?_, ?_⟩
      · dsimp only
        unfold su
        have := h1 j
        split <;> omega
      · dsimp only; unfold mx; split <;> omega
      · dsimp only; unfold mx; split <;> omega
    · rw [if_neg q, if_neg q]
      exact ⟨h1, h2, h3⟩
def rkF (Ws : Nat → WF) (h : MH) (c f p way : Int) (code : Nat) : Int := rcF Ws (h 6 2) (h 17) (h 18) c f p (alF ((code : Int) % 10) ((code : Int) / 10) way) 0
theorem e_fillT (d : Nat) (h : MH) : ∃ h1, Run d 48 0 [vR 47, .inl 0, vU, vU] [] h = some (none, h1) ∧ (∀ a, a ≠ 47 → h1 a = h a) ∧ ∀ j, j < 61 → h1 47 j = 0 := by
  have key : ∀ (r k : Nat) (g : MH), k + r = 61 → (∀ a, a ≠ 47 → g a = h a) → (∀ j, j < k → g 47 j = 0) → ∃ g2, Run d 48 5 [vR 47, .inl 0, .inl (k : Int), .inl 61] [] g = some (none, g2) ∧ (∀ a, a ≠ 47 → g2 a = h a) ∧ ∀ j, j < 61 → g2 47 j = 0 := by
    intro r
    induction r with
    | zero =>
      intro k g hk e1 e2
      exact ⟨g, by rw [q48_5_3, if_pos (by omega)], e1, fun j hj => e2 j (by omega)⟩
    | succ r ih =>
      intro k g hk e1 e2
      obtain ⟨g2, u1, u2, u3⟩ := ih (k + 1) (up g 47 k 0) (by omega) (fun a ha => by rw [up_ne ha]; exact e1 a ha) (fun j hj => by
        by_cases z : j = k
        · subst z; exact up_s _ _ _ _
        · rw [up_i z]; exact e2 j (by omega))
      refine ⟨g2, ?_, u2, u3⟩
      rw [← u1, q48_5_3, if_neg (by omega), if_pos (by omega), wI_ok (by omega) (by omega), show (k : Int) + 1 = ((k + 1 : Nat) : Int) by omega, show ((k : Nat) : Int).toNat = k by omega]
  rw [q48_0_3]
  exact key 61 0 h rfl (fun _ _ => rfl) (fun j hj => by omega)
theorem e_mostTogether {b : Int} {Ws : Nat → WF} {h : MH} (i : InvB b Ws h) (d : Nat) {c f p way : Int} (hf : fitR (pfF Ws h) 20 h) (hc0 : 0 ≤ c) (hc1 : c < h 2 4) (hf0 : 0 ≤ f) (hf1 : f < h 2 3) (hp0 : 1 ≤ p) (hp1 : p ≤ 20) :
    ∃ h1, Run (d + 5) 155 0 [vR 10, .inl c, .inl f, .inl p, .inl way, vU, vU, vU] [] h = some (some (.inl (tlF (rkF Ws h c f p way) (pfF Ws h) 20).2), h1) ∧ ∀ a, a ≠ 23 → a ≠ 30 → a ≠ 47 → h1 a = h a := by
  obtain ⟨g0, s1, s2, s3⟩ := e_fillT (d + 4) h
  have key : ∀ (r k : Nat) (g : MH) (z : MV), cat z = 1 → k + r = 20 → (∀ a, a ≠ 23 → a ≠ 30 → a ≠ 47 → g a = h a) → (∀ j, j < 61 → g 47 j = (tlF (rkF Ws h c f p way) (pfF Ws h) k).1 j) → ∃ g2, Run (d + 5) 155 14 [vR 10, .inl c, .inl f, .inl p, .inl way, .inl (tlF (rkF Ws h c f p way) (pfF Ws h) k).2, .inl (cnF (pfF Ws h) k : Int), z] [] g = some (some (.inl (tlF (rkF Ws h c f p way) (pfF Ws h) 20).2), g2) ∧ ∀ a, a ≠ 23 → a ≠ 30 → a ≠ 47 → g2 a = h a := by
    intro r
    induction r with
    | zero =>
      intro k g z hz hk eg et
      have : k = 20 := by omega
      subst this
      refine ⟨g, ?_, eg⟩
      rw [q155_14 (hz6 := hz), if_pos (by rw [eg _ (by omega) (by omega) (by omega), hf.1]; omega)]
    | succ r ih =>
      intro k g z hz hk eg et
      have ck := cnF_le (pfF Ws h) k
      obtain ⟨tb1, tb2, tb3⟩ := tlF_b (rkF Ws h c f p way) (pfF Ws h) k
      by_cases zp : pfF Ws h k = true
      · have cl := cnF_lt (pfF Ws h) (n := k) (m := 20) (by omega) zp
        have eq : Eqv h g := fun a j r => by
          rw [eg a (fun z => by subst z; exact Bool.false_ne_true r) (fun z => by subst z; exact Bool.false_ne_true r) (fun z => by subst z; exact Bool.false_ne_true r)]
        obtain ⟨d1, d2, d3, d4, d5, d6, d7⟩ := eq.dat
        obtain ⟨g1, r1, r2⟩ := e_reachBy (eq.B i) d (code := (k : Int)) (c := c) (f := f) (p := p) (way := way) (by omega) (by omega) hc0 (by omega) hf0 (by omega) hp0 hp1
        rw [d1, d2, d3] at r1
        have r1' : Run (d + 4) 152 0 [vR 10, .inl (k : Int), .inl c, .inl f, .inl p, .inl way] [] g = some (some (.inl (rkF Ws h c f p way k)), g1) := r1
        have rb : 0 ≤ rkF Ws h c f p way k ∧ rkF Ws h c f p way k ≤ 60 := rcF_b _ _ _ _ _ _ _ _ _
        have f2 : g 45 (cnF (pfF Ws h) k) = k := by rw [eg _ (by omega) (by omega) (by omega)]; exact hf.2 k (by omega) zp
        have f3 : g1 47 (rkF Ws h c f p way k).toNat = (tlF (rkF Ws h c f p way) (pfF Ws h) k).1 (rkF Ws h c f p way k).toNat := by
          rw [r2 _ (by omega) (by omega)]; exact et _ (by omega)
        have c1 : cnF (pfF Ws h) (k + 1) = cnF (pfF Ws h) k + 1 := by
          conv => lhs; unfold cnF
          rw [if_pos zp]
        have t1 : tlF (rkF Ws h c f p way) (pfF Ws h) (k + 1) = (su (tlF (rkF Ws h c f p way) (pfF Ws h) k).1 (rkF Ws h c f p way k).toNat ((tlF (rkF Ws h c f p way) (pfF Ws h) k).1 (rkF Ws h c f p way k).toNat + 1), mx (tlF (rkF Ws h c f p way) (pfF Ws h) k).2 ((tlF (rkF Ws h c f p way) (pfF Ws h) k).1 (rkF Ws h c f p way k).toNat + 1)) := by
          conv => lhs; unfold tlF
          rw [if_pos zp]
        have tb := tb1 (rkF Ws h c f p way k).toNat
        obtain ⟨g2, u1, u2⟩ := ih (k + 1) (up g1 47 (rkF Ws h c f p way k).toNat ((tlF (rkF Ws h c f p way) (pfF Ws h) k).1 (rkF Ws h c f p way k).toNat + 1)) (.inl (rkF Ws h c f p way k)) rfl (by omega) (fun a n1 n2 n3 => by rw [up_ne n3, r2 a n1 n2, eg a n1 n2 n3]) (fun j hj => by
          rw [t1, up_row]
          dsimp only
          unfold su
          split
          · rfl
          · rw [r2 _ (by omega) (by omega)]; exact et j hj)
        refine ⟨g2, ?_, u2⟩
        rw [← u1, t1, c1, q155_14 (hz6 := hz), eg 10 (by omega) (by omega) (by omega), hf.1, if_neg (by omega), if_pos (by omega), show ((cnF (pfF Ws h) k : Nat) : Int).toNat = cnF (pfF Ws h) k by omega, f2, r1', cI_some, if_pos (by omega), if_pos (by omega), if_pos (by omega), f3, wI_ok (by omega) (by omega), wI_ok (by omega) (by omega), up_s]
        rfl
      · have c1 : cnF (pfF Ws h) (k + 1) = cnF (pfF Ws h) k := by
          conv => lhs; unfold cnF
          rw [if_neg zp]
        have t1 : tlF (rkF Ws h c f p way) (pfF Ws h) (k + 1) = tlF (rkF Ws h c f p way) (pfF Ws h) k := by
          conv => lhs; unfold tlF
          rw [if_neg zp]
        obtain ⟨g2, u1, u2⟩ := ih (k + 1) g z hz (by omega) eg (by rw [t1]; exact et)
        refine ⟨g2, ?_, u2⟩
        rw [t1, c1] at u1
        exact u1
  obtain ⟨g2, u1, u2⟩ := key 20 0 g0 vU rfl rfl (fun a n1 n2 n3 => s2 a n3) (fun j hj => s3 j hj)
  refine ⟨g2, ?_, u2⟩
  rw [q155_0, s1, cV_some]
  exact u1
def EP (h h1 : MH) : Prop := ∀ a j, ¬ (a = 97 ∧ prF_ j) → a ≠ 101 → a ≠ 116 → h1 a j = h a j
theorem EP.V {h h1 : MH} (e : EP h h1) : Eqv h h1 := by
  intro a j r
  apply e a j
  · intro z; rw [pr_rel z] at r; cases r
  · intro z; subst z; exact Bool.false_ne_true r
  · intro z; subst z; exact Bool.false_ne_true r
/-- the reference: one shot tried -/
theorem m_ask1 {b : Int} {Ws : Nat → WF} {h : MH} (i : InvB b Ws h) (d : Nat) {c f p way A best least : Int} {B : Nat} (hA : A = B) (hB : B < 2147483648) (hbit : ∀ k, k < 20 → B.testBit k = pfF Ws h k) (hc0 : 0 ≤ c) (hc1 : c < h 2 4) (hf0 : 0 ≤ f) (hf1 : f < h 2 3) (hp0 : 1 ≤ p) (hp1 : p ≤ 20) (hw : way = 0 ∨ way = 1) (z7 z8 z9 : MV) (h7 : cat z7 = 1) (h8 : cat z8 = 1) (h9 : cat z9 = 1) :
    ∃ h1 z9', cat z9' = 1 ∧ EP h h1 ∧ Run (d + 35) 280 95 [vR 97, .inl c, .inl f, .inl A, .inl best, .inl least, .inl way, .inl p, .inl 0, z8, z9] [] h = Run (d + 35) 280 125 [vR 97, .inl c, .inl f, .inl A, .inl best, .inl least, .inl way, .inl p, .inl (tlF (rkF Ws h c f p way) (pfF Ws h) 20).2, .inl 20, z9'] [] h1 := by
  subst hA
  have clear : ∀ (r k : Nat) (g : MH), k + r = 128 → (∀ a, a ≠ 116 → g a = h a) → (∀ j, j < k → g 116 j = 0) → ∃ g2, Run (d + 35) 280 95 [vR 97, .inl c, .inl f, .inl (B : Int), .inl best, .inl least, .inl way, .inl p, .inl (k : Int), z8, z9] [] g = Run (d + 35) 280 125 [vR 97, .inl c, .inl f, .inl (B : Int), .inl best, .inl least, .inl way, .inl p, .inl 0, .inl 0, z9] [] g2 ∧ (∀ a, a ≠ 116 → g2 a = h a) ∧ ∀ j, j < 128 → g2 116 j = 0 := by
    intro r
    induction r with
    | zero =>
      intro k g hk e1 e2
      refine ⟨g, ?_, e1, fun j hj => e2 j (by omega)⟩
      rw [q280_95 (hz8 := h8) (hz9 := h9), if_pos (by omega)]
    | succ r ih =>
      intro k g hk e1 e2
      obtain ⟨g2, u1, u2, u3⟩ := ih (k + 1) (up g 116 k 0) (by omega) (fun a ha => by rw [up_ne ha]; exact e1 a ha) (fun j hj => by
        by_cases z : j = k
        · subst z; exact up_s _ _ _ _
        · rw [up_i z]; exact e2 j (by omega))
      refine ⟨g2, ?_, u2, u3⟩
      rw [← u1, q280_95 (hz8 := h8) (hz9 := h9), if_neg (by omega), if_pos (by omega), wI_ok (by omega) (by omega), show (k : Int) + 1 = ((k + 1 : Nat) : Int) by omega, show ((k : Nat) : Int).toNat = k by omega]
  obtain ⟨g0, s1, s2, s3⟩ := clear 128 0 h rfl (fun _ _ => rfl) (fun j hj => by omega)
  obtain ⟨-, ⟨n3, n4⟩, n5, n6⟩ := cf_n i.1 hc0 hc1 hf0 hf1
  have gf := lg_fort i.1 (3 * f) (by omega) (by omega)
  have key : ∀ (r k : Nat) (g : MH) (z : MV), cat z = 1 → k + r = 20 → EP h g → (∀ j, j < 128 → g 116 j = (tlF (rkF Ws h c f p way) (pfF Ws h) k).1 j) → ∃ g2 z2, cat z2 = 1 ∧ EP h g2 ∧ Run (d + 35) 280 125 [vR 97, .inl c, .inl f, .inl (B : Int), .inl best, .inl least, .inl way, .inl p, .inl (tlF (rkF Ws h c f p way) (pfF Ws h) k).2, .inl (k : Int), z] [] g = Run (d + 35) 280 125 [vR 97, .inl c, .inl f, .inl (B : Int), .inl best, .inl least, .inl way, .inl p, .inl (tlF (rkF Ws h c f p way) (pfF Ws h) 20).2, .inl 20, z2] [] g2 := by
    intro r
    induction r with
    | zero =>
      intro k g z hz hk eg et
      have : k = 20 := by omega
      subst this
      exact ⟨g, z, hz, eg, rfl⟩
    | succ r ih =>
      intro k g z hz hk eg et
      obtain ⟨tb1, tb2, tb3⟩ := tlF_b (rkF Ws h c f p way) (pfF Ws h) k
      have ck := cnF_le (pfF Ws h) k
      have hb : iAnd (iShr (B : Int) (k : Int)) 1 = bi (pfF Ws h k = true) := by
        rw [bit_n hB (by omega), hbit k (by omega)]
      by_cases zp : pfF Ws h k = true
      · obtain ⟨d1, d2, d3, d4, d5, d6, d7⟩ := eg.V.dat
        obtain ⟨g1, r1, r2⟩ := m_placeBy (eg.V.B i) d (c := c) (f := f) (p := p) (way := way) (wd := (k : Int) % 10) (wy := (k : Int) / 10) (dm := 0) hc0 (by omega) hf0 (by omega) hp0 hp1 (by omega) (by omega) (by omega) (by omega)
        rw [d1, d2, d3] at r1
        have rb : 0 ≤ rkF Ws h c f p way k ∧ rkF Ws h c f p way k ≤ 60 := rcF_b _ _ _ _ _ _ _ _ _
        have ef : ab (wI (plF Ws (h 6 2) (h 17) (h 18) c f p way ((k : Int) % 10) ((k : Int) / 10) 0 - h 17 (3 * f).toNat)) = rkF Ws h c f p way k := by
          have ep : plF Ws (h 6 2) (h 17) (h 18) c f p way ((k : Int) % 10) ((k : Int) / 10) 0 = if way = 0 then h 17 (3 * f).toNat + rkF Ws h c f p way k else h 17 (3 * f).toNat - rkF Ws h c f p way k := rfl
          rw [ep]
          split
          · rw [wI_ok (by omega) (by omega), ab_n (by omega) (by omega), if_pos (by omega)]; omega
          · rw [wI_ok (by omega) (by omega), ab_n (by omega) (by omega)]
            split <;> omega
        have f1 : g1 104 (3 * f).toNat = h 17 (3 * f).toNat := by rw [r2 _ _ (by omega) (by omega), eg _ _ (by omega) (by omega) (by omega), gf]
        have f3 : g1 116 (rkF Ws h c f p way k).toNat = (tlF (rkF Ws h c f p way) (pfF Ws h) k).1 (rkF Ws h c f p way k).toNat := by
          rw [r2 _ _ (by omega) (by omega)]; exact et _ (by omega)
        have t1 : tlF (rkF Ws h c f p way) (pfF Ws h) (k + 1) = (su (tlF (rkF Ws h c f p way) (pfF Ws h) k).1 (rkF Ws h c f p way k).toNat ((tlF (rkF Ws h c f p way) (pfF Ws h) k).1 (rkF Ws h c f p way k).toNat + 1), mx (tlF (rkF Ws h c f p way) (pfF Ws h) k).2 ((tlF (rkF Ws h c f p way) (pfF Ws h) k).1 (rkF Ws h c f p way k).toNat + 1)) := by
          conv => lhs; unfold tlF
          rw [if_pos zp]
        have tb := tb1 (rkF Ws h c f p way k).toNat
        obtain ⟨g2, z2, c2, u1, u2⟩ := ih (k + 1) (up g1 116 (rkF Ws h c f p way k).toNat ((tlF (rkF Ws h c f p way) (pfF Ws h) k).1 (rkF Ws h c f p way k).toNat + 1)) (.inl (rkF Ws h c f p way k)) rfl (by omega) (fun a j n1 n2 n3 => by rw [up_a n3, r2 a j n1 n2, eg a j n1 n2 n3]) (fun j hj => by
          rw [t1, up_row]
          dsimp only
          unfold su
          split
          · rfl
          · rw [r2 _ _ (by omega) (by omega)]; exact et j hj)
        refine ⟨g2, z2, c2, u1, ?_⟩
        rw [← u2, t1, q280_125 (hz9 := hz), if_neg (by omega), m_has, cI_some, hb, bi_t zp, if_pos (by omega), Int.tmod_eq_emod_of_nonneg (by omega), Int.tdiv_eq_ediv_of_nonneg (by omega), wI_ok (x := (k : Int) / 10) (by omega) (by omega), r1, cI_some, m_place _ _ _ hf0 n6, cI_some, f1, ef, if_pos (by omega), if_pos (by omega), if_pos (by omega), f3, wI_ok (by omega) (by omega), wI_ok (by omega) (by omega), up_s]
        rfl
      · have t1 : tlF (rkF Ws h c f p way) (pfF Ws h) (k + 1) = tlF (rkF Ws h c f p way) (pfF Ws h) k := by
          conv => lhs; unfold tlF
          rw [if_neg zp]
        obtain ⟨g2, z2, c2, u1, u2⟩ := ih (k + 1) g z hz (by omega) eg (by rw [t1]; exact et)
        refine ⟨g2, z2, c2, u1, ?_⟩
        rw [← u2, t1, q280_125 (hz9 := hz), if_neg (by omega), m_has, cI_some, hb, bi_f zp, if_neg (by omega), wI_ok (by omega) (by omega)]
        rfl
  obtain ⟨g2, z2, c2, u1, u2⟩ := key 20 0 g0 z9 h9 rfl (fun a j _ _ n3 => by rw [s2 a n3]) (fun j hj => s3 j hj)
  refine ⟨g2, z2, c2, u1, ?_⟩
  refine Eq.trans ?_ u2
  exact s1
