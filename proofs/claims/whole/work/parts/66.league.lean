/-! a league's text -/
abbrev LgS : Type := Bool × (Nat → Int) × (Nat × (Nat → Int)) × (Nat × (Nat → Int))
def rwA (F : Nat → Int) (n : Nat) (w : Nat → Int) : Nat → Int := fun j => if 3 * n ≤ j then w (j - 3 * n) else F j
abbrev itR (T : Nat → Int) (L a : Nat) : Nat × Option (Nat → Int) := imF 0 4 T L (4 + 1) a (fun _ => false) (fun k => ro 121 (0 + k))
abbrev itO (T : Nat → Int) (L a : Nat) : Nat × Option (Nat → Int) := imF 4 3 T L (3 + 1) a (fun _ => false) (fun k => ro 121 (4 + k))
abbrev itC (T : Nat → Int) (L a : Nat) : Nat × Option (Nat → Int) := imF 7 3 T L (3 + 1) a (fun _ => false) (fun k => ro 121 (7 + k))
def clF (T : Nat → Int) (L a : Nat) (S : LgS) : Nat × Option LgS :=
  if sgF T L (skF T L a) 115 ∧ S.1 = false then ((itR T L (skF T L a + 1)).1, (itR T L (skF T L a + 1)).2.map fun w => (true, w, S.2.2.1, S.2.2.2))
  else if sgF T L (skF T L a) 102 ∧ S.2.2.1.1 < 8 then ((itO T L (skF T L a + 1)).1, (itO T L (skF T L a + 1)).2.map fun w => (S.1, S.2.1, (S.2.2.1.1 + 1, rwA S.2.2.1.2 S.2.2.1.1 w), S.2.2.2))
  else if sgF T L (skF T L a) 99 ∧ S.2.2.2.1 < 5 then ((itC T L (skF T L a + 1)).1, (itC T L (skF T L a + 1)).2.map fun w => (S.1, S.2.1, S.2.2.1, (S.2.2.2.1 + 1, rwA S.2.2.2.2 S.2.2.2.1 w)))
  else (skF T L a, none)
def lsB (S : LgS) : Prop := S.2.2.1.1 ≤ 8 ∧ S.2.2.2.1 ≤ 5 ∧ (∀ k, k < 4 → ro 122 k ≤ S.2.1 k ∧ S.2.1 k ≤ ro 123 k) ∧ (∀ i k, i < S.2.2.1.1 → k < 3 → ro 122 (4 + k) ≤ S.2.2.1.2 (3 * i + k) ∧ S.2.2.1.2 (3 * i + k) ≤ ro 123 (4 + k)) ∧ ∀ i k, i < S.2.2.2.1 → k < 3 → ro 122 (7 + k) ≤ S.2.2.2.2 (3 * i + k) ∧ S.2.2.2.2 (3 * i + k) ≤ ro 123 (7 + k)
theorem us_b {f0 n : Nat} (hn : f0 + n ≤ 10) : ∀ k, k < n → ro 122 (f0 + k) ≤ ro 121 (f0 + k) ∧ ro 121 (f0 + k) ≤ ro 123 (f0 + k) := fun k hk => (ro_b (k := f0 + k) (by omega)).2.2
theorem rwA_b {F w : Nat → Int} {n f0 : Nat} (h1 : ∀ i k, i < n → k < 3 → ro 122 (f0 + k) ≤ F (3 * i + k) ∧ F (3 * i + k) ≤ ro 123 (f0 + k)) (h2 : ∀ k, k < 3 → ro 122 (f0 + k) ≤ w k ∧ w k ≤ ro 123 (f0 + k)) : ∀ i k, i < n + 1 → k < 3 → ro 122 (f0 + k) ≤ rwA F n w (3 * i + k) ∧ rwA F n w (3 * i + k) ≤ ro 123 (f0 + k) := by
  intro i k hi hk
  unfold rwA
  by_cases q : i = n
  · subst q
    rw [if_pos (by omega), show 3 * i + k - 3 * i = k by omega]
    exact h2 k hk
  · rw [if_neg (by omega)]
    exact h1 i k (by omega) hk
theorem cl_b {T : Nat → Int} {L a : Nat} {S S2 : LgS} (b : lsB S) (h : (clF T L a S).2 = some S2) : lsB S2 := by
  obtain ⟨b1, b2, b3, b4, b5⟩ := b
  unfold clF at h
  by_cases q1 : sgF T L (skF T L a) 115 ∧ S.1 = false
  · rw [if_pos q1] at h
    cases hw : (itR T L (skF T L a + 1)).2 with
    | none => rw [hw] at h; cases h
    | some w =>
      rw [hw] at h
      have := Option.some.inj h
      rw [← this]
      refine ⟨b1, b2, fun k hk => ?_, b4, b5⟩
      have z := it_b (f0 := 0) (n := 4) _ _ _ _ (us_b (by omega)) w hw k hk
      rw [Nat.zero_add] at z
      exact z
  · rw [if_neg q1] at h
    by_cases q2 : sgF T L (skF T L a) 102 ∧ S.2.2.1.1 < 8
    · rw [if_pos q2] at h
      cases hw : (itO T L (skF T L a + 1)).2 with
      | none => rw [hw] at h; cases h
      | some w =>
        rw [hw] at h
        have := Option.some.inj h
        rw [← this]
        exact ⟨q2.2, b2, b3, rwA_b b4 (it_b (f0 := 4) (n := 3) _ _ _ _ (us_b (by omega)) w hw), b5⟩
    · rw [if_neg q2] at h
      by_cases q3 : sgF T L (skF T L a) 99 ∧ S.2.2.2.1 < 5
      · rw [if_pos q3] at h
        cases hw : (itC T L (skF T L a + 1)).2 with
        | none => rw [hw] at h; cases h
        | some w =>
          rw [hw] at h
          have := Option.some.inj h
          rw [← this]
          exact ⟨b1, q3.2, b3, b4, rwA_b b5 (it_b (f0 := 7) (n := 3) _ _ _ _ (us_b (by omega)) w hw)⟩
      · rw [if_neg q3] at h; cases h
theorem cl_L {T : Nat → Int} {L a : Nat} {S : LgS} (ha : a ≤ L) : a ≤ (clF T L a S).1 ∧ (clF T L a S).1 ≤ L := by
  have s0 := sk_le T L a
  have s1 := sk_L (T := T) ha
  unfold clF
  by_cases q1 : sgF T L (skF T L a) 115 ∧ S.1 = false
  · rw [if_pos q1]
    have z := it_ge (f0 := 0) (n := 4) (T := T) (L := L) (by omega) (4 + 1) (skF T L a + 1) (fun _ => false) (fun k => ro 121 (0 + k)) q1.1.1
    exact ⟨Nat.le_trans (show a ≤ skF T L a + 1 by omega) z, it_L (by omega) _ _ _ _ q1.1.1⟩
  · rw [if_neg q1]
    by_cases q2 : sgF T L (skF T L a) 102 ∧ S.2.2.1.1 < 8
    · rw [if_pos q2]
      have z := it_ge (f0 := 4) (n := 3) (T := T) (L := L) (by omega) (3 + 1) (skF T L a + 1) (fun _ => false) (fun k => ro 121 (4 + k)) q2.1.1
      exact ⟨Nat.le_trans (show a ≤ skF T L a + 1 by omega) z, it_L (by omega) _ _ _ _ q2.1.1⟩
    · rw [if_neg q2]
      by_cases q3 : sgF T L (skF T L a) 99 ∧ S.2.2.2.1 < 5
      · rw [if_pos q3]
        have z := it_ge (f0 := 7) (n := 3) (T := T) (L := L) (by omega) (3 + 1) (skF T L a + 1) (fun _ => false) (fun k => ro 121 (7 + k)) q3.1.1
        exact ⟨Nat.le_trans (show a ≤ skF T L a + 1 by omega) z, it_L (by omega) _ _ _ _ q3.1.1⟩
      · rw [if_neg q3]; exact ⟨s0, s1⟩
abbrev whP (S : LgS) : Prop := (2 ≤ S.2.2.1.1 ∧ 1 ≤ S.2.2.2.1) ∧ (∀ i, i < S.2.2.1.1 → ∀ j, j < i → S.2.2.1.2 (3 * i) ≠ S.2.2.1.2 (3 * j)) ∧ ∀ i, i < S.2.2.2.1 → S.2.2.2.2 (3 * i + 2) < S.2.2.1.1
def lgF (T : Nat → Int) (L : Nat) : Nat → Nat → LgS → Nat × Option LgS
  | 0, a, _ => (a, none)
  | r + 1, a, S => match clF T L a S with
    | (q, none) => (q, none)
    | (q, some S2) => if ¬ skF T L q < L then (if whP S2 then (skF T L q, some S2) else (skF T L q, none)) else if T (skF T L q) = 59 then lgF T L r (skF T L q + 1) S2 else (skF T L q, none)
theorem lg_b {T : Nat → Int} {L : Nat} : ∀ (r a : Nat) (S S2 : LgS), lsB S → (lgF T L r a S).2 = some S2 → lsB S2 ∧ whP S2
  | 0, a, S, S2, _, h => by cases h
  | r + 1, a, S, S2, b, h => by
    unfold lgF at h
    cases hc : clF T L a S with
    | mk q o =>
      rw [hc] at h
      cases o with
      | none => cases h
      | some S3 =>
        have b3 := cl_b (T := T) (L := L) (a := a) b (S2 := S3) (by rw [hc])
        dsimp only at h
        by_cases q1 : skF T L q < L
        · rw [if_neg (fun z => z q1)] at h
          by_cases q2 : T (skF T L q) = 59
          · rw [if_pos q2] at h
            exact lg_b r _ S3 S2 b3 h
          · rw [if_neg q2] at h; cases h
        · rw [if_pos q1] at h
          by_cases q2 : whP S3
          · rw [if_pos q2] at h
            have := Option.some.inj h
            rw [← this]
            exact ⟨b3, q2⟩
          · rw [if_neg q2] at h; cases h
abbrev lsZ : LgS := (false, (fun k => ro 121 k), (0, fun _ => 0), (0, fun _ => 0))
theorem lsZ_b : lsB lsZ := ⟨by show (0 : Nat) ≤ 8; omega, by show (0 : Nat) ≤ 5; omega, fun k hk => (ro_b (k := k) (by omega)).2.2, fun i k hi => absurd hi (by show ¬ i < 0; omega), fun i k hi => absurd hi (by show ¬ i < 0; omega)⟩
/-- the class' draft -/
def dfC (S : LgS) (h : MH) : Prop := h 3 2 = bi (S.1 = true) ∧ h 4 3 = S.2.2.1.1 ∧ h 4 4 = S.2.2.2.1 ∧ (∀ k, k < 4 → h 19 k = S.2.1 k) ∧ (∀ j, j < 3 * S.2.2.1.1 → h 20 j = S.2.2.1.2 j) ∧ ∀ j, j < 3 * S.2.2.2.1 → h 21 j = S.2.2.2.2 j
def frC (h h2 : MH) : Prop := ∀ c, c ≠ 3 → c ≠ 4 → c ≠ 19 → c ≠ 20 → c ≠ 21 → h2 c = h c
theorem frC.T {T : Nat → Int} {L : Nat} {h h2 : MH} (e : frC h h2) (t : TC T L h) : TC T L h2 := t.mv (by rw [e _ (by omega) (by omega) (by omega) (by omega) (by omega)]) (e _ (by omega) (by omega) (by omega) (by omega) (by omega))
theorem ca_nx (h : MH) {p : Nat} (hp : p ≤ 240) : up (ca h p) 1 2 (wI (ca h p 1 2 + 1)) = ca h (p + 1) := by
  rw [ca_at, wI_ok (by omega) (by omega)]
  exact ca_ca h p (p + 1)
theorem ng_no {T : Nat → Int} {L p : Nat} {s : Int} (hs : s ≠ 0) (q : ¬ sgF T L p s) : ¬ ngF T L p = s := fun z => q ((ng_sg hs).1 z)
theorem e_lclause {T : Nat → Int} {L : Nat} {h : MH} (t : TC T L h) (d : Nat) {a : Nat} (ha : a ≤ L) {S : LgS} (s : dfC S h) (b1 : S.2.2.1.1 ≤ 8) (b2 : S.2.2.2.1 ≤ 5) :
    ∃ h2, Run (d + 7) 7 0 [vR 3, vU, vU] [] (ca h a) = some (some (.inl (bi ((clF T L a S).2.isSome = true))), ca h2 (clF T L a S).1) ∧ frC h h2 ∧ ∀ S2, (clF T L a S).2 = some S2 → dfC S2 h2 := by
  obtain ⟨s1, s2, s3, s4, s5, s6⟩ := s
  have l240 := t.1.1
  obtain ⟨p, hp⟩ : ∃ p, p = skF T L a := ⟨_, rfl⟩
  have pL : p ≤ L := by rw [hp]; exact sk_L ha
  have hd := q7_0 (d + 6) (ca h a)
  rw [e_nextT t (d + 6) ha, cI_some, ← hp, ca_ne h p (by omega), s1] at hd
  have hd54 := q7_54 (d + 6) (ngF T L p) vU rfl (ca h p)
  have hd124 := q7_124 (d + 6) (ngF T L p) vU rfl (ca h p)
  rw [ca_nx h (by omega), ca_ne h p (by omega), s2] at hd54
  rw [ca_nx h (by omega), ca_ne h p (by omega), s3] at hd124
  unfold clF
  rw [← hp]
  -- behind the rules
  have c124 : ¬ sgF T L p 102 ∨ ¬ S.2.2.1.1 < 8 → ∃ h2, Run (d + 7) 7 124 [vR 3, .inl (ngF T L p), vU] [] (ca h p) = some (some (.inl (bi ((if sgF T L p 99 ∧ S.2.2.2.1 < 5 then ((itC T L (p + 1)).1, (itC T L (p + 1)).2.map fun w => (S.1, S.2.1, S.2.2.1, (S.2.2.2.1 + 1, rwA S.2.2.2.2 S.2.2.2.1 w))) else (p, none) : Nat × Option LgS).2.isSome = true))), ca h2 (if sgF T L p 99 ∧ S.2.2.2.1 < 5 then ((itC T L (p + 1)).1, (itC T L (p + 1)).2.map fun w => (S.1, S.2.1, S.2.2.1, (S.2.2.2.1 + 1, rwA S.2.2.2.2 S.2.2.2.1 w))) else (p, none) : Nat × Option LgS).1) ∧ frC h h2 ∧ ∀ S2, (if sgF T L p 99 ∧ S.2.2.2.1 < 5 then ((itC T L (p + 1)).1, (itC T L (p + 1)).2.map fun w => (S.1, S.2.1, S.2.2.1, (S.2.2.2.1 + 1, rwA S.2.2.2.2 S.2.2.2.1 w))) else (p, none) : Nat × Option LgS).2 = some S2 → dfC S2 h2 := by
    intro _
    by_cases q : sgF T L p 99 ∧ S.2.2.2.1 < 5
    · rw [if_pos q]
      have t1 : TC T L (up h 4 4 ((S.2.2.2.1 : Int) + 1)) := t.up (by omega) (by omega)
      obtain ⟨h2, u1, u2, u3, u4⟩ := e_readItems21 (T := T) (L := L) d (s := 3 * S.2.2.2.1) (a := p + 1) (by omega) t1 q.1.1
      have q1 : ¬ ¬ ngF T L p = 99 := fun z => z ((ng_sg (by omega)).2 q.1)
      rw [if_neg q1, if_neg (by omega), ca_ne h (p + 1) (by omega), s3, wI_ok (x := (S.2.2.2.1 : Int) * 3) (by omega) (by omega), wI_ok (x := (S.2.2.2.1 : Int) + 1) (by omega) (by omega), ca_up _ _ _ (by omega), show (S.2.2.2.1 : Int) * 3 = ((3 * S.2.2.2.1 : Nat) : Int) by omega] at hd124
      have u1' : Run (d + 6) 9 0 [vR 3, vR 21, .inl ((3 * S.2.2.2.1 : Nat) : Int), .inl 7, .inl 10, vU, vU, vU, vU] [] (ca (up h 4 4 ((S.2.2.2.1 : Int) + 1)) (p + 1)) = _ := u1
      rw [u1', cI_some, if_pos (bi_01 _)] at hd124
      refine ⟨h2, by rw [hd124]; dsimp only; rw [Option.isSome_map], fun c c1 c2 c3 c4 c5 => by rw [u2 c c5, up_ne c2], fun S2 hS => ?_⟩
      cases hw : (itC T L (p + 1)).2 with
      | none => rw [hw] at hS; cases hS
      | some w =>
        rw [hw] at hS
        have := Option.some.inj hS
        rw [← this]
        have w4 := u4 w hw
        refine ⟨?_, ?_, ?_, fun k hk => ?_, fun j hj => ?_, fun j hj => ?_⟩
        · rw [u2 _ (by omega), up_ne (by omega)]; exact s1
        · rw [u2 _ (by omega), up_i (by omega)]; exact s2
        · rw [u2 _ (by omega), up_s]; show (S.2.2.2.1 : Int) + 1 = ((S.2.2.2.1 + 1 : Nat) : Int); omega
        · rw [u2 _ (by omega), up_ne (by omega)]; exact s4 k hk
        · rw [u2 _ (by omega), up_ne (by omega)]; exact s5 j hj
        · have hj' : j < 3 * (S.2.2.2.1 + 1) := hj
          show h2 21 j = rwA S.2.2.2.2 S.2.2.2.1 w j
          unfold rwA
          by_cases z : 3 * S.2.2.2.1 ≤ j
          · rw [if_pos z, ← w4 (j - 3 * S.2.2.2.1) (by omega), show 3 * S.2.2.2.1 + (j - 3 * S.2.2.2.1) = j by omega]
          · rw [if_neg z, u3 j (by omega), up_ne (by omega)]; exact s6 j (by omega)
    · rw [if_neg q]
      have : Run (d + 7) 7 124 [vR 3, .inl (ngF T L p), vU] [] (ca h p) = some (some (.inl 0), ca h p) := by
        by_cases q1 : sgF T L p 99
        · have q2 : ¬ S.2.2.2.1 < 5 := fun z => q ⟨q1, z⟩
          rw [hd124, if_neg (fun z => z ((ng_sg (by omega)).2 q1)), if_pos (by omega)]
        · rw [hd124, if_pos (ng_no (by omega) q1)]
      exact ⟨h, this, fun _ _ _ _ _ _ => rfl, fun S2 hS => by cases hS⟩
  have c54 : ∃ h2, Run (d + 7) 7 54 [vR 3, .inl (ngF T L p), vU] [] (ca h p) = some (some (.inl (bi ((if sgF T L p 102 ∧ S.2.2.1.1 < 8 then ((itO T L (p + 1)).1, (itO T L (p + 1)).2.map fun w => (S.1, S.2.1, (S.2.2.1.1 + 1, rwA S.2.2.1.2 S.2.2.1.1 w), S.2.2.2)) else if sgF T L p 99 ∧ S.2.2.2.1 < 5 then ((itC T L (p + 1)).1, (itC T L (p + 1)).2.map fun w => (S.1, S.2.1, S.2.2.1, (S.2.2.2.1 + 1, rwA S.2.2.2.2 S.2.2.2.1 w))) else (p, none) : Nat × Option LgS).2.isSome = true))), ca h2 (if sgF T L p 102 ∧ S.2.2.1.1 < 8 then ((itO T L (p + 1)).1, (itO T L (p + 1)).2.map fun w => (S.1, S.2.1, (S.2.2.1.1 + 1, rwA S.2.2.1.2 S.2.2.1.1 w), S.2.2.2)) else if sgF T L p 99 ∧ S.2.2.2.1 < 5 then ((itC T L (p + 1)).1, (itC T L (p + 1)).2.map fun w => (S.1, S.2.1, S.2.2.1, (S.2.2.2.1 + 1, rwA S.2.2.2.2 S.2.2.2.1 w))) else (p, none) : Nat × Option LgS).1) ∧ frC h h2 ∧ ∀ S2, (if sgF T L p 102 ∧ S.2.2.1.1 < 8 then ((itO T L (p + 1)).1, (itO T L (p + 1)).2.map fun w => (S.1, S.2.1, (S.2.2.1.1 + 1, rwA S.2.2.1.2 S.2.2.1.1 w), S.2.2.2)) else if sgF T L p 99 ∧ S.2.2.2.1 < 5 then ((itC T L (p + 1)).1, (itC T L (p + 1)).2.map fun w => (S.1, S.2.1, S.2.2.1, (S.2.2.2.1 + 1, rwA S.2.2.2.2 S.2.2.2.1 w))) else (p, none) : Nat × Option LgS).2 = some S2 → dfC S2 h2 := by
    by_cases q : sgF T L p 102 ∧ S.2.2.1.1 < 8
    · rw [if_pos q]
      have t1 : TC T L (up h 4 3 ((S.2.2.1.1 : Int) + 1)) := t.up (by omega) (by omega)
      obtain ⟨h2, u1, u2, u3, u4⟩ := e_readItems20 (T := T) (L := L) d (s := 3 * S.2.2.1.1) (a := p + 1) (by omega) t1 q.1.1
      have q1 : ¬ ¬ ngF T L p = 102 := fun z => z ((ng_sg (by omega)).2 q.1)
      rw [if_neg q1, if_neg (by omega), ca_ne h (p + 1) (by omega), s2, wI_ok (x := (S.2.2.1.1 : Int) * 3) (by omega) (by omega), wI_ok (x := (S.2.2.1.1 : Int) + 1) (by omega) (by omega), ca_up _ _ _ (by omega), show (S.2.2.1.1 : Int) * 3 = ((3 * S.2.2.1.1 : Nat) : Int) by omega] at hd54
      have u1' : Run (d + 6) 9 0 [vR 3, vR 20, .inl ((3 * S.2.2.1.1 : Nat) : Int), .inl 4, .inl 7, vU, vU, vU, vU] [] (ca (up h 4 3 ((S.2.2.1.1 : Int) + 1)) (p + 1)) = _ := u1
      rw [u1', cI_some, if_pos (bi_01 _)] at hd54
      refine ⟨h2, by rw [hd54]; dsimp only; rw [Option.isSome_map], fun c c1 c2 c3 c4 c5 => by rw [u2 c c4, up_ne c2], fun S2 hS => ?_⟩
      cases hw : (itO T L (p + 1)).2 with
      | none => rw [hw] at hS; cases hS
      | some w =>
        rw [hw] at hS
        have := Option.some.inj hS
        rw [← this]
        have w4 := u4 w hw
        refine ⟨?_, ?_, ?_, fun k hk => ?_, fun j hj => ?_, fun j hj => ?_⟩
        · rw [u2 _ (by omega), up_ne (by omega)]; exact s1
        · rw [u2 _ (by omega), up_s]; show (S.2.2.1.1 : Int) + 1 = ((S.2.2.1.1 + 1 : Nat) : Int); omega
        · rw [u2 _ (by omega), up_i (by omega)]; exact s3
        · rw [u2 _ (by omega), up_ne (by omega)]; exact s4 k hk
        · have hj' : j < 3 * (S.2.2.1.1 + 1) := hj
          show h2 20 j = rwA S.2.2.1.2 S.2.2.1.1 w j
          unfold rwA
          by_cases z : 3 * S.2.2.1.1 ≤ j
          · rw [if_pos z, ← w4 (j - 3 * S.2.2.1.1) (by omega), show 3 * S.2.2.1.1 + (j - 3 * S.2.2.1.1) = j by omega]
          · rw [if_neg z, u3 j (by omega), up_ne (by omega)]; exact s5 j (by omega)
        · rw [u2 _ (by omega), up_ne (by omega)]; exact s6 j hj
    · rw [if_neg q]
      have : Run (d + 7) 7 54 [vR 3, .inl (ngF T L p), vU] [] (ca h p) = Run (d + 7) 7 124 [vR 3, .inl (ngF T L p), vU] [] (ca h p) := by
        by_cases q1 : sgF T L p 102
        · have q2 : ¬ S.2.2.1.1 < 8 := fun z => q ⟨q1, z⟩
          rw [hd54, if_neg (fun z => z ((ng_sg (by omega)).2 q1)), if_pos (by omega)]
        · rw [hd54, if_pos (ng_no (by omega) q1)]
      rw [this]
      exact c124 (Classical.not_and_iff_not_or_not.1 q)
  by_cases q : sgF T L p 115 ∧ S.1 = false
  · rw [if_pos q]
    have t1 : TC T L (up h 3 2 1) := t.up (by omega) (by omega)
    obtain ⟨h2, u1, u2, u3, u4⟩ := e_readItems19 (T := T) (L := L) d (s := 0) (a := p + 1) (by omega) t1 q.1.1
    rw [if_neg (fun z => z ((ng_sg (by omega)).2 q.1)), bi_f (by rw [q.2]; exact Bool.false_ne_true), if_neg (fun z => z rfl), ca_nx h (by omega), ca_up _ _ _ (by omega)] at hd
    have u1' : Run (d + 6) 9 0 [vR 3, vR 19, .inl 0, .inl 0, .inl 4, vU, vU, vU, vU] [] (ca (up h 3 2 1) (p + 1)) = _ := u1
    rw [u1', cI_some, if_pos (bi_01 _)] at hd
    refine ⟨h2, by rw [hd]; dsimp only; rw [Option.isSome_map], fun c c1 c2 c3 c4 c5 => by rw [u2 c c3, up_ne c1], fun S2 hS => ?_⟩
    cases hw : (itR T L (p + 1)).2 with
    | none => rw [hw] at hS; cases hS
    | some w =>
      rw [hw] at hS
      have := Option.some.inj hS
      rw [← this]
      have w4 := u4 w hw
      refine ⟨?_, ?_, ?_, fun k hk => ?_, fun j hj => ?_, fun j hj => ?_⟩
      · rw [u2 _ (by omega), up_s]; rfl
      · rw [u2 _ (by omega), up_ne (by omega)]; exact s2
      · rw [u2 _ (by omega), up_ne (by omega)]; exact s3
      · have := w4 k hk
        rw [Nat.zero_add] at this
        exact this
      · rw [u2 _ (by omega), up_ne (by omega)]; exact s5 j hj
      · rw [u2 _ (by omega), up_ne (by omega)]; exact s6 j hj
  · rw [if_neg q]
    have : Run (d + 7) 7 0 [vR 3, vU, vU] [] (ca h a) = Run (d + 7) 7 54 [vR 3, .inl (ngF T L p), vU] [] (ca h p) := by
      by_cases q1 : sgF T L p 115
      · have q2 : S.1 = true := by
          cases z : S.1 with
          | true => rfl
          | false => exact absurd ⟨q1, z⟩ q
        rw [hd, if_neg (fun z => z ((ng_sg (by omega)).2 q1)), bi_t q2, if_pos (by omega)]
      · rw [hd, if_pos (ng_no (by omega) q1)]
    rw [this]
    exact c54
