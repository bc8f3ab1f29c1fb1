/-! numbers in a text: at most r more digits -/
def nmF (T : Nat → Int) (L : Nat) : Nat → Nat → Int → Bool → Nat × Option Int
  | 0, p, v, z => if dgP T L p 9 then (p, none) else (p, if z = true then some v else none)
  | r + 1, p, v, z => if dgP T L p 9 then nmF T L r (p + 1) (10 * v + (T p - 48)) true else (p, if z = true then some v else none)
theorem nm_L {T : Nat → Int} {L : Nat} : ∀ (r p : Nat) (v : Int) (z : Bool), p ≤ L → p ≤ (nmF T L r p v z).1 ∧ (nmF T L r p v z).1 ≤ L
  | 0, p, v, z, h => by unfold nmF; split <;> exact ⟨Nat.le_refl _, h⟩
  | r + 1, p, v, z, h => by
    unfold nmF
    split
    · rename_i q
      have := nm_L (T := T) r (p + 1) (10 * v + (T p - 48)) true q.1
      exact ⟨by omega, this.2⟩
    · exact ⟨Nat.le_refl _, h⟩
theorem nm_p {T : Nat → Int} {L : Nat} : ∀ (r p : Nat) (v : Int) (z : Bool) (w : Int), (nmF T L r p v z).2 = some w → (z = true ∨ p < (nmF T L r p v z).1)
  | 0, p, v, z, w, h => by
    unfold nmF at h
    split at h
    · cases h
    · cases z
      · cases h
      · exact Or.inl rfl
  | r + 1, p, v, z, w, h => by
    unfold nmF at h ⊢
    by_cases q : dgP T L p 9
    · rw [if_pos q]
      have := nm_L (T := T) r (p + 1) (10 * v + (T p - 48)) true q.1
      exact Or.inr (by omega)
    · rw [if_neg q] at h
      cases z
      · cases h
      · exact Or.inl rfl
theorem nm_b {T : Nat → Int} {L : Nat} : ∀ (r p : Nat) (v : Int) (z : Bool) (j : Nat), 0 ≤ v → v < 10 ^ j → ∀ w, (nmF T L r p v z).2 = some w → 0 ≤ w ∧ w < 10 ^ (j + r)
  | 0, p, v, z, j, h0, h1, w, h => by
    unfold nmF at h
    split at h
    · cases h
    · cases z
      · cases h
      · have := Option.some.inj h
        rw [← this]
        exact ⟨h0, h1⟩
  | r + 1, p, v, z, j, h0, h1, w, h => by
    unfold nmF at h
    by_cases q : dgP T L p 9
    · rw [if_pos q] at h
      have e : (10 : Int) ^ (j + 1) = 10 * 10 ^ j := by rw [Int.pow_succ]; omega
      have := nm_b r (p + 1) (10 * v + (T p - 48)) true (j + 1) (by have := q.2; omega) (by have := q.2; omega) w h
      rw [show j + (r + 1) = j + 1 + r by omega]
      exact this
    · rw [if_neg q] at h
      cases z
      · cases h
      · have := Option.some.inj h
        rw [← this]
        refine ⟨h0, Int.lt_of_lt_of_le h1 ?_⟩
        have := Nat.pow_le_pow_right (n := 10) (by omega) (show j ≤ j + (r + 1) by omega)
        exact_mod_cast this
def nvF (o : Option Int) : Int := match o with
  | none => -1
  | some v => v
theorem e_numberN {T : Nat → Int} {L : Nat} {h : MH} (t : TC T L h) (d : Nat) {m : Nat} (m4 : m ≤ 4) : ∀ (r j p : Nat) (v : Int), j + r = m → p ≤ L → 0 ≤ v → v < 10 ^ j → Run d 16 4 [vR 1, .inl (m : Int), .inl v, .inl (j : Int)] [] (ca h p) = some (some (.inl (nvF (nmF T L r p v (decide (j ≠ 0))).2)), ca h (nmF T L r p v (decide (j ≠ 0))).1) := by
  obtain ⟨⟨t0, t1, t2⟩, t3⟩ := t
  have p4 : ∀ j : Nat, j ≤ 4 → (10 : Int) ^ j ≤ 10000 := by
    intro j hj
    have := Nat.pow_le_pow_right (n := 10) (by omega) hj
    have e : (10 : Int) ^ j ≤ 10 ^ 4 := by exact_mod_cast this
    omega
  have fin : ∀ (j p : Nat) (v : Int), (if ¬ (j : Int) = 0 then some (some (.inl v), ca h p) else some (some (.inl (-1)), ca h p) : Option (Option MV × MH)) = some (some (.inl (nvF (if decide (j ≠ 0) = true then some v else none))), ca h p) := by
    intro j p v
    by_cases q : j = 0
    · subst q; rw [if_neg (by omega)]; rfl
    · rw [if_pos (by omega), if_pos (decide_eq_true q)]; rfl
  intro r
  induction r with
  | zero =>
    intro j p v hj hp v0 v1
    have pj := p4 j (by omega)
    unfold nmF
    rw [q16_4, if_neg (by omega), ca_at, ca_f h p (by omega), t1]
    by_cases q0 : p < L
    · rw [if_neg (by omega), if_pos (by omega), ca_ne h p (by omega), show ((p : Nat) : Int).toNat = p by omega, t2 p q0]
      by_cases q1 : T p < 48
      · rw [if_pos q1, fin, if_neg (c := dgP T L p 9) (fun z => by have := z.2; omega)]
      · rw [if_neg q1, if_pos (by omega)]
        by_cases q2 : 57 < T p
        · rw [if_pos q2, fin, if_neg (c := dgP T L p 9) (fun z => by have := z.2; omega)]
        · rw [if_neg q2, if_neg (fun z => z (by omega)), if_pos ⟨q0, by omega, by omega⟩]
          rfl
    · rw [if_pos (by omega), fin, if_neg (c := dgP T L p 9) (fun z => q0 z.1)]
  | succ r ih =>
    intro j p v hj hp v0 v1
    have pj := p4 j (by omega)
    unfold nmF
    rw [q16_4, if_neg (by omega), ca_at, ca_f h p (by omega), t1]
    by_cases q0 : p < L
    · rw [if_neg (by omega), if_pos (by omega), ca_ne h p (by omega), show ((p : Nat) : Int).toNat = p by omega, t2 p q0]
      by_cases q1 : T p < 48
      · rw [if_pos q1, fin, if_neg (c := dgP T L p 9) (fun z => by have := z.2; omega)]
      · rw [if_neg q1, if_pos (by omega)]
        by_cases q2 : 57 < T p
        · rw [if_pos q2, fin, if_neg (c := dgP T L p 9) (fun z => by have := z.2; omega)]
        · have e : (10 : Int) ^ (j + 1) = 10 * 10 ^ j := by rw [Int.pow_succ]; omega
          have ii := ih (j + 1) (p + 1) (10 * v + (T p - 48)) (by omega) (by omega) (by omega) (by rw [e]; omega)
          rw [if_neg q2, if_pos (by omega), if_pos (by omega), if_pos ⟨q0, by omega, by omega⟩, wI_ok (x := v * 10) (by omega) (by omega), wI_ok (x := v * 10 + T p) (by omega) (by omega), wI_ok (x := v * 10 + T p - 48) (by omega) (by omega), wI_ok (by omega) (by omega), wI_ok (by omega) (by omega), show v * 10 + T p - 48 = 10 * v + (T p - 48) by omega, show up (ca h p) 1 2 ((p : Int) + 1) = ca h (p + 1) from ca_ca h p (p + 1)]
          exact ii
    · rw [if_pos (by omega), fin, if_neg (c := dgP T L p 9) (fun z => q0 z.1)]
theorem e_number {T : Nat → Int} {L : Nat} {h : MH} (t : TC T L h) (d : Nat) {m p : Nat} (m4 : m ≤ 4) (hp : p ≤ L) : Run d 16 0 [vR 1, .inl (m : Int), vU, vU] [] (ca h p) = some (some (.inl (nvF (nmF T L m p 0 false).2)), ca h (nmF T L m p 0 false).1) := by
  rw [q16_0]
  exact e_numberN t d m4 m 0 p 0 (by omega) hp (by omega) (by simp)
theorem m_here {T : Nat → Int} {L : Nat} {G : MH} (r : RT T L G) (d : Nat) {a : Nat} (f : Int) (ha : a < L) (h0 : 0 ≤ T a) : Run d 197 0 [vR 97] [] (mg G a f) = some (some (.inl (T a)), mg G a f) := by
  obtain ⟨⟨c, bg, h1, h2, h3, h4, h5⟩, h6⟩ := r
  have g2 := (mg_o G a f (j := 5) (by omega) (by omega)).trans h2
  have g3 := (mg_o G a f (j := 8) (by omega) (by omega)).trans h3
  have g4 := (mg_o G a f (j := 9) (by omega) (by omega)).trans h4
  have e5 := h5 a ha
  have b := h6 a ha
  have lk : T a = iAnd (T a) 255 := by rw [and255 b.2.1 b.2.2]; unfold l8F; rw [if_neg (by omega)]
  rcases h1 with ⟨rfl, h1⟩ | ⟨rfl, h1⟩
  · have g5 : mg G a f 98 (bg + a) = T a := by rw [mg_ne G a f (by omega)]; exact e5
    rw [q197_0, mg_at, g4, g2, g3, if_neg (by omega), if_pos (by omega), wI_ok (x := (bg : Int) + a) (by omega) (by omega), if_pos (by omega), show ((bg : Int) + a).toNat = bg + a by omega, g5, ← lk]
  · have g5 : mg G a f 99 (bg + a) = T a := by rw [mg_ne G a f (by omega)]; exact e5
    rw [q197_0, mg_at, g4, g2, g3, if_neg (by omega), if_neg (by omega), if_pos (by omega), wI_ok (x := (bg : Int) + a) (by omega) (by omega), if_pos (by omega), show ((bg : Int) + a).toNat = bg + a by omega, g5, ← lk]
/-- what the reference's number leaves: where, fault -/
def nrF (T : Nat → Int) (L p : Nat) (lo hi : Int) : Nat × Int × Int := match nmF T L 2 p 0 false with
  | (q, none) => (q, (q : Int), 0)
  | (q, some v) => if lo ≤ v ∧ v ≤ hi then (q, -1, v) else (q - 1, ((q - 1 : Nat) : Int), v)
theorem m_number {T : Nat → Int} {L : Nat} {G : MH} (r : RT T L G) (L9 : L ≤ 240) (d : Nat) {a : Nat} (ha : a ≤ L) (lo hi : Int) (hl : inI lo) (hh : inI hi) : Run (d + 1) 195 0 [vR 97, .inl lo, .inl hi, vU, vU] [] (mg G a (-1)) = some (some (.inl (nrF T L (skF T L a) lo hi).2.2), mg G (nrF T L (skF T L a) lo hi).1 (nrF T L (skF T L a) lo hi).2.1) := by
  obtain ⟨p, hp⟩ : ∃ p, p = skF T L a := ⟨_, rfl⟩
  have pL : p ≤ L := by rw [hp]; exact sk_L ha
  rw [q195_0, m_look r d _ ha, cI_some, ← hp, m_isDigit r d _ pL, cI_some]
  by_cases q0 : dgP T L p 9
  · obtain ⟨z0, z1, z2⟩ := id q0
    have e : lkG T L p = T p := by unfold lkG l8F; rw [if_pos z0, if_neg (by omega)]
    have nx : ∀ (k : Nat) (f : Int), up (mg G k f) 97 10 ((k : Int) + 1) = mg G (k + 1) f := fun k f => mg_a G k (k + 1) f
    have fin : ∀ (q : Nat) (v : Int), q ≤ L → 1 ≤ q → ¬ dgP T L q 9 → 0 ≤ v → v ≤ 99 → Run (d + 1) 195 67 [vR 97, .inl lo, .inl hi, .inl (T p), .inl v] [] (mg G q (-1)) = some (some (.inl v), if lo ≤ v ∧ v ≤ hi then mg G q (-1) else mg G (q - 1) ((q - 1 : Nat) : Int)) := by
      intro q v hq hq1 nd v0 v1
      rw [q195_67 (hz2 := rfl), m_isDigit r d _ hq, cI_some, bi_f nd, if_pos rfl, m_isIn, cI_some]
      by_cases qi : lo ≤ v ∧ v ≤ hi
      · rw [bi_t qi, if_pos (by omega), if_pos qi]
      · rw [bi_f qi, if_neg (fun z => z rfl), if_neg qi, mg_at, wI_ok (by omega) (by omega), show (q : Int) - 1 = ((q - 1 : Nat) : Int) by omega, mg_a, m_fails, cI_some, if_pos rfl]
    rw [bi_t q0, if_pos (by omega), mg_at, wI_ok (x := (p : Int) + 1) (by omega) (by omega), nx, m_isDigit r d _ (by omega), cI_some, e, wI_ok (x := T p - 48) (by omega) (by omega)]
    unfold nrF nmF
    rw [if_pos q0]
    unfold nmF
    by_cases q1 : dgP T L (p + 1) 9
    · obtain ⟨y0, y1, y2⟩ := id q1
      rw [bi_t q1, if_neg (by omega), m_here r d _ y0 (by omega), cI_some, mg_at, wI_ok (x := ((p + 1 : Nat) : Int) + 1) (by omega) (by omega), nx, wI_ok (x := 10 * (T p - 48)) (by omega) (by omega), wI_ok (x := 10 * (T p - 48) + T (p + 1)) (by omega) (by omega), wI_ok (x := 10 * (T p - 48) + T (p + 1) - 48) (by omega) (by omega), if_pos q1]
      unfold nmF
      by_cases q2 : dgP T L (p + 1 + 1) 9
      · rw [q195_67 (hz2 := rfl), m_isDigit r d _ (by omega), cI_some, bi_t q2, if_neg (by omega), m_fails, cI_some, if_pos rfl, if_pos q2]
      · rw [fin (p + 1 + 1) _ (by omega) (by omega) q2 (by omega) (by omega), if_neg q2, if_pos rfl, show 10 * (T p - 48) + T (p + 1) - 48 = 10 * (10 * 0 + (T p - 48)) + (T (p + 1) - 48) by omega]
        dsimp only
        split <;> rfl
    · rw [bi_f q1, if_pos rfl, fin (p + 1) _ (by omega) (by omega) q1 (by omega) (by omega), if_neg q1, if_pos rfl, show 10 * 0 + (T p - 48) = T p - 48 by omega]
      dsimp only
      split <;> rfl
  · rw [bi_f q0, if_neg (fun z => z rfl), m_fails, cI_some, if_pos rfl]
    unfold nrF nmF
    rw [if_neg q0]
    rfl
