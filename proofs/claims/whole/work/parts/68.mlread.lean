/-! a league's text: the reference -/
def dfM (S : LgS) (G : MH) : Prop := G 97 31 = bi (S.1 = true) ∧ G 97 28 = S.2.2.1.1 ∧ G 97 29 = S.2.2.2.1 ∧ (∀ k, k < 4 → G 103 k = S.2.1 k) ∧ (∀ j, j < 3 * S.2.2.1.1 → G 105 j = S.2.2.1.2 j) ∧ ∀ j, j < 3 * S.2.2.2.1 → G 107 j = S.2.2.2.2 j
def frM (G G2 : MH) : Prop := (∀ c, c ≠ 97 → c ≠ 103 → c ≠ 105 → c ≠ 107 → G2 c = G c) ∧ ∀ j, j ≠ 28 → j ≠ 29 → j ≠ 31 → G2 97 j = G 97 j
theorem frM.tr {h h1 h2 : MH} (e : frM h h1) (f : frM h1 h2) : frM h h2 := ⟨fun c c1 c2 c3 c4 => by rw [f.1 c c1 c2 c3 c4, e.1 c c1 c2 c3 c4], fun j c1 c2 c3 => by rw [f.2 j c1 c2 c3, e.2 j c1 c2 c3]⟩
theorem frM.T {T : Nat → Int} {L : Nat} {h h2 : MH} (e : frM h h2) (t : RT T L h) : RT T L h2 := t.mv (e.2 _ (by omega) (by omega) (by omega)) (e.2 _ (by omega) (by omega) (by omega)) (e.2 _ (by omega) (by omega) (by omega)) (e.1 _ (by omega) (by omega) (by omega) (by omega)) (e.1 _ (by omega) (by omega) (by omega) (by omega))
theorem mg_uf (G : MH) (a : Nat) (f : Int) {j : Nat} (v : Int) (e1 : j ≠ 10) (e2 : j ≠ 11) : up (mg G a f) 97 j v = mg (up G 97 j v) a f := by
  unfold mg
  rw [up_comm _ _ _ (by omega), up_comm G _ _ (by omega)]
theorem mg_nx (G : MH) {p : Nat} (f : Int) (hp : p ≤ 960) : up (mg G p f) 97 10 (wI (mg G p f 97 10 + 1)) = mg G (p + 1) f := by
  rw [mg_at, wI_ok (by omega) (by omega)]
  exact mg_a G p (p + 1) f
theorem rt_uf {T : Nat → Int} {L : Nat} {G : MH} (r : RT T L G) {j : Nat} {v : Int} (e1 : j ≠ 5) (e2 : j ≠ 8) (e3 : j ≠ 9) : RT T L (up G 97 j v) := r.mv (up_i (fun z => e1 z.symm)) (up_i (fun z => e2 z.symm)) (up_i (fun z => e3 z.symm)) (up_ne (by omega)) (up_ne (by omega))
theorem flO_map {α β : Type} (n : Nat) (o : Option α) (f : α → β) : flO (n, o.map f) = flO (n, o) := by
  unfold flO
  dsimp only
  rw [Option.isSome_map]
theorem m_lclause {T : Nat → Int} {L : Nat} (L9 : L ≤ 240) {G : MH} (t : RT T L G) (d : Nat) {a : Nat} (ha : a ≤ L) {S : LgS} (s : dfM S G) (b1 : S.2.2.1.1 ≤ 8) (b2 : S.2.2.2.1 ≤ 5) :
    ∃ G2, Run (d + 7) 187 0 [vR 97, vU, vU] [] (mg G a (-1)) = some (none, mg G2 (clF T L a S).1 (flO (clF T L a S))) ∧ frM G G2 ∧ ∀ S2, (clF T L a S).2 = some S2 → dfM S2 G2 := by
  obtain ⟨s1, s2, s3, s4, s5, s6⟩ := s
  obtain ⟨p, hp⟩ : ∃ p, p = skF T L a := ⟨_, rfl⟩
  have pL : p ≤ L := by rw [hp]; exact sk_L ha
  have hd := q187_0 (d + 6) (mg G a (-1))
  rw [m_look t _ _ ha, cI_some, ← hp, mg_o G p (-1) (by omega) (by omega), s1] at hd
  have hd18 := q187_18 (d + 6) (lkG T L p) vU rfl (mg G p (-1))
  rw [mg_o G p (-1) (by omega) (by omega), mg_o G p (-1) (by omega) (by omega), s2, s3] at hd18
  have hd52 := fun y => q187_52 (d + 6) (lkG T L p) vU rfl y (mg G p (-1))
  simp only [mg_nx G (-1) (show p ≤ 960 by omega)] at hd52
  have k1 := lk_sg (p := p) t.2 (s := 115) (by omega) (by omega)
  have k2 := lk_sg (p := p) t.2 (s := 102) (by omega) (by omega)
  have k3 := lk_sg (p := p) t.2 (s := 99) (by omega) (by omega)
  unfold clF
  rw [← hp]
  by_cases q1 : sgF T L p 115 ∧ S.1 = false
  · have e := k1.2 q1.1
    rw [if_pos q1]
    have h52 := hd52 1
    rw [e] at hd h52
    rw [if_neg (fun z => z rfl), bi_f (by rw [q1.2]; exact Bool.false_ne_true), if_pos rfl, h52, if_pos (by omega), if_neg (fun z => z rfl), mg_uf _ _ _ _ (by omega) (by omega)] at hd
    obtain ⟨G2, u1, u2, u3, u4⟩ := m_readItems103 L9 d (s := 0) (a := p + 1) (by omega) (rt_uf t (j := 31) (v := 1) (by omega) (by omega) (by omega)) q1.1.1
    have u1' : Run (d + 6) 190 0 [vR 97, .inl 115, vR 103, .inl 0, vR 127, vU, vU] [] (mg (up G 97 31 1) (p + 1) (-1)) = _ := u1
    rw [u1', cV_some] at hd
    refine ⟨G2, by rw [hd, flO_map], ⟨fun c c1 c2 c3 c4 => by rw [u2 c c2, up_ne c1], fun j j1 j2 j3 => by rw [u2 _ (by omega), up_i j3]⟩, fun S2 hS => ?_⟩
    cases hw : (itR T L (p + 1)).2 with
    | none => rw [hw] at hS; cases hS
    | some w =>
      rw [hw] at hS
      have := Option.some.inj hS
      rw [← this]
      have w4 := u4 w hw
      refine ⟨?_, ?_, ?_, fun k hk => ?_, fun j hj => ?_, fun j hj => ?_⟩
      · rw [u2 _ (by omega), up_s]; rfl
      · rw [u2 _ (by omega), up_i (by omega)]; exact s2
      · rw [u2 _ (by omega), up_i (by omega)]; exact s3
      · have := w4 k hk
        rw [Nat.zero_add] at this
        exact this
      · rw [u2 _ (by omega), up_ne (by omega)]; exact s5 j hj
      · rw [u2 _ (by omega), up_ne (by omega)]; exact s6 j hj
  · rw [if_neg q1]
    have g18 : Run (d + 7) 187 0 [vR 97, vU, vU] [] (mg G a (-1)) = Run (d + 7) 187 18 [vR 97, .inl (lkG T L p), vU] [] (mg G p (-1)) := by
      rw [hd]
      by_cases z : sgF T L p 115
      · have z2 : S.1 = true := by
          cases y : S.1 with
          | true => rfl
          | false => exact absurd ⟨z, y⟩ q1
        rw [if_neg (fun y => y (k1.2 z)), bi_t z2, if_neg (by omega)]
      · rw [if_pos (fun y => z (k1.1 y))]
    rw [g18]
    by_cases q2 : sgF T L p 102 ∧ S.2.2.1.1 < 8
    · have e := k2.2 q2.1
      rw [if_pos q2]
      have h52 := hd52 1
      rw [e] at hd18 h52
      rw [if_neg (fun z => z rfl), if_pos (by omega), h52, if_pos (by omega), if_pos (by omega), if_neg (fun z => z rfl), mg_o G (p + 1) (-1) (by omega) (by omega), s2, wI_ok (x := (S.2.2.1.1 : Int) + 1) (by omega) (by omega), up_s, wI_ok (x := (S.2.2.1.1 : Int) + 1 - 1) (by omega) (by omega), wI_ok (by omega) (by omega), mg_uf _ _ _ _ (by omega) (by omega), show 3 * ((S.2.2.1.1 : Int) + 1 - 1) = ((3 * S.2.2.1.1 : Nat) : Int) by omega] at hd18
      obtain ⟨G2, u1, u2, u3, u4⟩ := m_readItems105 L9 d (s := 3 * S.2.2.1.1) (a := p + 1) (by omega) (rt_uf t (j := 28) (v := (S.2.2.1.1 : Int) + 1) (by omega) (by omega) (by omega)) q2.1.1
      rw [u1, cV_some] at hd18
      refine ⟨G2, by rw [e, hd18, flO_map], ⟨fun c c1 c2 c3 c4 => by rw [u2 c c3, up_ne c1], fun j j1 j2 j3 => by rw [u2 _ (by omega), up_i j1]⟩, fun S2 hS => ?_⟩
      cases hw : (itO T L (p + 1)).2 with
      | none => rw [hw] at hS; cases hS
      | some w =>
        rw [hw] at hS
        have := Option.some.inj hS
        rw [← this]
        have w4 := u4 w hw
        refine ⟨?_, ?_, ?_, fun k hk => ?_, fun j hj => ?_, fun j hj => ?_⟩
        · rw [u2 _ (by omega), up_i (by omega)]; exact s1
        · rw [u2 _ (by omega), up_s]; show (S.2.2.1.1 : Int) + 1 = ((S.2.2.1.1 + 1 : Nat) : Int); omega
        · rw [u2 _ (by omega), up_i (by omega)]; exact s3
        · rw [u2 _ (by omega), up_ne (by omega)]; exact s4 k hk
        · have hj' : j < 3 * (S.2.2.1.1 + 1) := hj
          show G2 105 j = rwA S.2.2.1.2 S.2.2.1.1 w j
          unfold rwA
          by_cases z : 3 * S.2.2.1.1 ≤ j
          · rw [if_pos z, ← w4 (j - 3 * S.2.2.1.1) (by omega), show 3 * S.2.2.1.1 + (j - 3 * S.2.2.1.1) = j by omega]
          · rw [if_neg z, u3 j (by omega), up_ne (by omega)]; exact s5 j (by omega)
        · rw [u2 _ (by omega), up_ne (by omega)]; exact s6 j hj
    · rw [if_neg q2]
      by_cases q3 : sgF T L p 99 ∧ S.2.2.2.1 < 5
      · have e := k3.2 q3.1
        rw [if_pos q3]
        have h52 := hd52 1
        rw [e] at hd18 h52
        rw [if_pos (by omega), if_neg (fun z => z rfl), if_neg (by omega), h52, if_pos (by omega), if_pos (by omega), if_pos (by omega), mg_o G (p + 1) (-1) (by omega) (by omega), s3, wI_ok (x := (S.2.2.2.1 : Int) + 1) (by omega) (by omega), up_s, wI_ok (x := (S.2.2.2.1 : Int) + 1 - 1) (by omega) (by omega), wI_ok (by omega) (by omega), mg_uf _ _ _ _ (by omega) (by omega), show 3 * ((S.2.2.2.1 : Int) + 1 - 1) = ((3 * S.2.2.2.1 : Nat) : Int) by omega] at hd18
        obtain ⟨G2, u1, u2, u3, u4⟩ := m_readItems107 L9 d (s := 3 * S.2.2.2.1) (a := p + 1) (by omega) (rt_uf t (j := 29) (v := (S.2.2.2.1 : Int) + 1) (by omega) (by omega) (by omega)) q3.1.1
        rw [u1, cV_some] at hd18
        refine ⟨G2, by rw [e, hd18, flO_map], ⟨fun c c1 c2 c3 c4 => by rw [u2 c c4, up_ne c1], fun j j1 j2 j3 => by rw [u2 _ (by omega), up_i j2]⟩, fun S2 hS => ?_⟩
        cases hw : (itC T L (p + 1)).2 with
        | none => rw [hw] at hS; cases hS
        | some w =>
          rw [hw] at hS
          have := Option.some.inj hS
          rw [← this]
          have w4 := u4 w hw
          refine ⟨?_, ?_, ?_, fun k hk => ?_, fun j hj => ?_, fun j hj => ?_⟩
          · rw [u2 _ (by omega), up_i (by omega)]; exact s1
          · rw [u2 _ (by omega), up_i (by omega)]; exact s2
          · rw [u2 _ (by omega), up_s]; show (S.2.2.2.1 : Int) + 1 = ((S.2.2.2.1 + 1 : Nat) : Int); omega
          · rw [u2 _ (by omega), up_ne (by omega)]; exact s4 k hk
          · rw [u2 _ (by omega), up_ne (by omega)]; exact s5 j hj
          · have hj' : j < 3 * (S.2.2.2.1 + 1) := hj
            show G2 107 j = rwA S.2.2.2.2 S.2.2.2.1 w j
            unfold rwA
            by_cases z : 3 * S.2.2.2.1 ≤ j
            · rw [if_pos z, ← w4 (j - 3 * S.2.2.2.1) (by omega), show 3 * S.2.2.2.1 + (j - 3 * S.2.2.2.1) = j by omega]
            · rw [if_neg z, u3 j (by omega), up_ne (by omega)]; exact s6 j (by omega)
      · rw [if_neg q3]
        have g52 : Run (d + 7) 187 18 [vR 97, .inl (lkG T L p), vU] [] (mg G p (-1)) = Run (d + 7) 187 52 [vR 97, .inl (lkG T L p), vU] [.inl 0] (mg G p (-1)) := by
          rw [hd18]
          have n3 : ¬ (lkG T L p = 99 ∧ S.2.2.2.1 < 5) := fun z => q3 ⟨k3.1 z.1, z.2⟩
          have n2 : ¬ (lkG T L p = 102 ∧ S.2.2.1.1 < 8) := fun z => q2 ⟨k2.1 z.1, z.2⟩
          have f3 : (if ¬ lkG T L p = 99 then Run (d + 7) 187 52 [vR 97, .inl (lkG T L p), vU] [.inl 0] (mg G p (-1)) else if 5 ≤ (S.2.2.2.1 : Int) then Run (d + 7) 187 52 [vR 97, .inl (lkG T L p), vU] [.inl 0] (mg G p (-1)) else Run (d + 7) 187 52 [vR 97, .inl (lkG T L p), vU] [.inl 1] (mg G p (-1))) = Run (d + 7) 187 52 [vR 97, .inl (lkG T L p), vU] [.inl 0] (mg G p (-1)) := by
            by_cases z : lkG T L p = 99
            · rw [if_neg (fun y => y z), if_pos (by omega)]
            · rw [if_pos z]
          by_cases z : lkG T L p = 102
          · rw [if_neg (fun y => y z), if_neg (by omega)]
            exact f3
          · rw [if_pos z]
            exact f3
        rw [g52, hd52 0, if_neg (fun z => z rfl), m_fails, cI_some, if_pos rfl]
        exact ⟨G, rfl, ⟨fun _ _ _ _ _ => rfl, fun _ _ _ _ => rfl⟩, fun S2 hS => by cases hS⟩
theorem m_isWhole (d : Nat) {S : LgS} {h : MH} (b1 : S.2.2.1.1 ≤ 8) (b2 : S.2.2.2.1 ≤ 5) (s2 : h 97 28 = S.2.2.1.1) (s3 : h 97 29 = S.2.2.2.1) (s5 : ∀ j, j < 3 * S.2.2.1.1 → h 105 j = S.2.2.1.2 j) (s6 : ∀ j, j < 3 * S.2.2.2.1 → h 107 j = S.2.2.2.2 j) : Run d 198 0 [vR 97, vU, vU] [] h = some (some (.inl (bi (whP S))), h) := by
  have c64 : ∀ (r i : Nat) (z : MV), cat z = 1 → i + r = S.2.2.2.1 → Run d 198 52 [vR 97, .inl (i : Int), z] [] h = some (some (.inl (bi ((2 ≤ S.2.2.1.1 ∧ 1 ≤ S.2.2.2.1) ∧ ∀ k, k < S.2.2.2.1 → i ≤ k → S.2.2.2.2 (3 * k + 2) < S.2.2.1.1))), h) := by
    intro r
    induction r with
    | zero =>
      intro i z hz hi
      rw [q198_52 (hz1 := hz), s3, s2, if_pos (by omega)]
      by_cases z1 : 2 ≤ S.2.2.1.1
      · rw [if_neg (by omega)]
        by_cases z2 : 1 ≤ S.2.2.2.1
        · rw [if_neg (by omega), bi_t ⟨⟨z1, z2⟩, fun k h1 h2 => by omega⟩]
        · rw [if_pos (by omega), bi_f (fun g => z2 g.1.2)]
      · rw [if_pos (by omega), bi_f (fun g => z1 g.1.1)]
    | succ r ih =>
      intro i z hz hi
      rw [q198_52 (hz1 := hz), s3, s2, if_neg (by omega), wI_ok (x := 3 * (i : Int)) (by omega) (by omega), wI_ok (x := 3 * (i : Int) + 2) (by omega) (by omega), if_pos (by omega), show (3 * (i : Int) + 2).toNat = 3 * i + 2 by omega, s6 (3 * i + 2) (by omega)]
      by_cases q : S.2.2.2.2 (3 * i + 2) < S.2.2.1.1
      · rw [if_pos q, wI_ok (by omega) (by omega)]
        have := ih (i + 1) z hz (by omega)
        rw [show ((i + 1 : Nat) : Int) = (i : Int) + 1 by omega] at this
        rw [this]
        refine bi_c2 ?_
        refine ⟨fun g => ⟨g.1, fun k h1 h2 => ?_⟩, fun g => ⟨g.1, fun k h1 h2 => g.2 k h1 (by omega)⟩⟩
        by_cases z : k = i
        · rw [z]; exact q
        · exact g.2 k h1 (by omega)
      · rw [if_neg q, bi_f (fun g => q (g.2 i (by omega) (Nat.le_refl _)))]
  have c30 : ∀ (r j i : Nat), i < S.2.2.1.1 → j + r = i → (∀ k, k < j → S.2.2.1.2 (3 * i) ≠ S.2.2.1.2 (3 * k)) → Run d 198 12 [vR 97, .inl (i : Int), .inl (j : Int)] [] h = if (∀ k, k < i → S.2.2.1.2 (3 * i) ≠ S.2.2.1.2 (3 * k)) then Run d 198 2 [vR 97, .inl ((i + 1 : Nat) : Int), .inl (i : Int)] [] h else some (some (.inl 0), h) := by
    intro r
    induction r with
    | zero =>
      intro j i hi hj hk
      have : j = i := by omega
      subst this
      rw [q198_12, if_pos (by omega), wI_ok (by omega) (by omega), if_pos hk]
      rfl
    | succ r ih =>
      intro j i hi hj hk
      rw [q198_12, if_neg (by omega), wI_ok (x := 3 * (i : Int)) (by omega) (by omega), if_pos (by omega), wI_ok (x := 3 * (j : Int)) (by omega) (by omega), if_pos (by omega), show (3 * (i : Int)).toNat = 3 * i by omega, show (3 * (j : Int)).toNat = 3 * j by omega, s5 (3 * i) (by omega), s5 (3 * j) (by omega)]
      by_cases q : S.2.2.1.2 (3 * i) = S.2.2.1.2 (3 * j)
      · rw [if_neg (fun z => z q), if_neg (fun g => g j (by omega) q)]
      · rw [if_pos q, wI_ok (by omega) (by omega)]
        have := ih (j + 1) i hi (by omega) (fun k h1 => by
          by_cases z : k = j
          · rw [z]; exact q
          · exact hk k (by omega))
        rw [show ((j + 1 : Nat) : Int) = (j : Int) + 1 by omega] at this
        exact this
  have c20 : ∀ (r i : Nat) (z : MV), cat z = 1 → i + r = S.2.2.1.1 → Run d 198 2 [vR 97, .inl (i : Int), z] [] h = some (some (.inl (bi ((∀ k, k < S.2.2.1.1 → i ≤ k → ∀ j, j < k → S.2.2.1.2 (3 * k) ≠ S.2.2.1.2 (3 * j)) ∧ (2 ≤ S.2.2.1.1 ∧ 1 ≤ S.2.2.2.1) ∧ ∀ k, k < S.2.2.2.1 → S.2.2.2.2 (3 * k + 2) < S.2.2.1.1))), h) := by
    intro r
    induction r with
    | zero =>
      intro i z hz hi
      rw [q198_2 (hz1 := hz), s2, if_pos (by omega)]
      have := c64 S.2.2.2.1 0 z hz (by omega)
      have e : Run d 198 52 [vR 97, .inl 0, z] [] h = _ := this
      rw [e]
      refine bi_c2 ?_
      exact ⟨fun g => ⟨fun k h1 h2 => by omega, g.1, fun k h1 => g.2 k h1 (Nat.zero_le _)⟩, fun g => ⟨g.2.1, fun k h1 _ => g.2.2 k h1⟩⟩
    | succ r ih =>
      intro i z hz hi
      rw [q198_2 (hz1 := hz), s2, if_neg (by omega)]
      have := c30 i 0 i (by omega) (by omega) (fun k h1 => by omega)
      have e : Run d 198 12 [vR 97, .inl (i : Int), .inl 0] [] h = _ := this
      rw [e]
      by_cases q : ∀ k, k < i → S.2.2.1.2 (3 * i) ≠ S.2.2.1.2 (3 * k)
      · rw [if_pos q, ih (i + 1) (.inl (i : Int)) rfl (by omega)]
        refine bi_c2 ?_
        refine ⟨fun g => ⟨fun k h1 h2 => ?_, g.2⟩, fun g => ⟨fun k h1 h2 => g.1 k h1 (by omega), g.2⟩⟩
        by_cases z : k = i
        · rw [z]; exact q
        · exact g.1 k h1 (by omega)
      · rw [if_neg q, bi_f (fun g => q (g.1 i (by omega) (Nat.le_refl _)))]
  rw [q198_0]
  have := c20 S.2.2.1.1 0 vU rfl (by omega)
  have e : Run d 198 2 [vR 97, .inl 0, vU] [] h = _ := this
  rw [e]
  refine bi_c2 ?_
  exact ⟨fun g => ⟨g.2.1, fun i h1 => g.1 i h1 (Nat.zero_le _), g.2.2⟩, fun g => ⟨fun k h1 _ => g.2.1 k h1, g.1, g.2.2⟩⟩
theorem m_readLg {T : Nat → Int} {L : Nat} (L9 : L ≤ 240) (d : Nat) : ∀ (r a : Nat) (S : LgS) (G : MH), 241 ≤ a + r → a ≤ L → RT T L G → lsB S → dfM S G →
    ∃ G2 a2, Run (d + 8) 184 55 [vR 97, .inl 1] [] (mg G a (-1)) = some (none, mg G2 a2 (flO (lgF T L r a S))) ∧ frM G G2 ∧ ∀ S2, (lgF T L r a S).2 = some S2 → dfM S2 G2 := by
  intro r
  induction r with
  | zero =>
    intro a S G hr ha t b s
    omega
  | succ r ih =>
    intro a S G hr ha t b s
    obtain ⟨G1, u1, u2, u3⟩ := m_lclause L9 t d ha s b.1 b.2.1
    have cl := cl_L (T := T) (L := L) (S := S) ha
    have z55 : ∀ g : MH, Run (d + 7 + 1) 184 55 [vR 97, .inl 0] [] g = Run (d + 7 + 1) 184 111 [vR 97, .inl 0] [] g := fun g => by rw [q184_55, if_pos rfl]
    have hd := q184_55 (d + 7) 1 (mg G a (-1))
    rw [if_neg (by omega), mg_fl, if_neg (fun z => z rfl), u1, cV_some, mg_fl] at hd
    unfold lgF
    have cb := fun S2 => cl_b (T := T) (L := L) (a := a) (S2 := S2) b
    generalize clF T L a S = o at u3 cl cb hd ⊢
    obtain ⟨q, o⟩ := o
    have qL : q ≤ L := cl.2
    have qa : a ≤ q := cl.1
    cases o with
    | none =>
      have e : flO (q, (none : Option LgS)) = (q : Int) := rfl
      rw [e, if_pos (by omega), z55, q184_111 (hz0 := rfl), mg_fl, if_pos (by omega)] at hd
      dsimp only
      exact ⟨G1, _, hd, u2, fun S2 hS => by cases hS⟩
    | some S3 =>
      have e : flO (q, some S3) = -1 := rfl
      have s3 := u3 S3 rfl
      have b3 := cb S3 rfl
      have t1 := u2.T t
      have sq := sk_le T L q
      rw [e, if_neg (fun z => z rfl), m_look t1 _ _ qL, cI_some] at hd
      dsimp only
      by_cases q3 : skF T L q < L ∧ T (skF T L q) = 59
      · rw [if_neg (fun z => z ((lk_sg t.2 (by omega) (by omega)).2 q3)), mg_nx _ _ (by omega)] at hd
        rw [if_neg (fun z => z q3.1), if_pos q3.2]
        obtain ⟨G2, a2, v1, v2, v3⟩ := ih (skF T L q + 1) S3 G1 (by omega) q3.1 t1 b3 s3
        exact ⟨G2, a2, hd.trans v1, u2.tr v2, v3⟩
      · rw [if_pos (fun z => q3 ((lk_sg t.2 (by omega) (by omega)).1 z)), z55, q184_111 (hz0 := rfl), mg_fl, if_neg (fun z => z rfl), m_look t1 _ _ (sk_L qL), cI_some, sk_sk qL] at hd
        by_cases q1 : skF T L q < L
        · rw [if_pos (fun z => (lk_end t.2).1 z q1), m_fails, cI_some, if_pos rfl] at hd
          rw [if_neg (fun z => z q1), if_neg (fun z => q3 ⟨q1, z⟩)]
          exact ⟨G1, _, hd, u2, fun S2 hS => by cases hS⟩
        · obtain ⟨m1, m2, m3, m4, m5, m6⟩ := id s3
          rw [if_neg (fun z => z ((lk_end t.2).2 q1)), m_isWhole (d + 7) b3.1 b3.2.1 (by rw [mg_o _ _ _ (by omega) (by omega)]; exact m2) (by rw [mg_o _ _ _ (by omega) (by omega)]; exact m3) (by rw [mg_ne _ _ _ (by omega)]; exact m5) (by rw [mg_ne _ _ _ (by omega)]; exact m6), cI_some] at hd
          rw [if_pos q1]
          by_cases q2 : whP S3
          · rw [if_pos q2]
            rw [bi_t q2, if_pos (by omega)] at hd
            refine ⟨G1, _, hd, u2, fun S2 hS => ?_⟩
            have := Option.some.inj hS
            rw [← this]
            exact s3
          · rw [if_neg q2]
            rw [bi_f q2, if_neg (fun z => z rfl), m_fails, cI_some, if_pos rfl] at hd
            exact ⟨G1, _, hd, u2, fun S2 hS => by cases hS⟩
/-- a text begun -/
def stM (h : MH) (c : Nat) (bg L : Int) : MH := up (up (up h 97 5 (c : Int)) 97 8 bg) 97 9 L
theorem stM_o (h : MH) (c : Nat) (bg L : Int) {a : Nat} (e : a ≠ 97) : stM h c bg L a = h a := by unfold stM; rw [up_ne e, up_ne e, up_ne e]
theorem stM_f (h : MH) (c : Nat) (bg L : Int) {j : Nat} (e1 : j ≠ 5) (e2 : j ≠ 8) (e3 : j ≠ 9) : stM h c bg L 97 j = h 97 j := by unfold stM; rw [up_i e3, up_i e2, up_i e1]
theorem stM_T {T : Nat → Int} {L : Nat} {h : MH} (x : txOK T L) (l : L ≤ 240) (e : ∀ j, j < L → h 98 j = T j) : RT T L (stM h 98 0 L) := by
  refine ⟨⟨98, 0, Or.inl ⟨rfl, by omega⟩, ?_, ?_, ?_, fun j hj => ?_⟩, x⟩
  · unfold stM; rw [up_i (by omega), up_i (by omega), up_s]
  · unfold stM; rw [up_i (by omega), up_s]; rfl
  · unfold stM; rw [up_s]
  · rw [stM_o _ _ _ _ (by omega), Nat.zero_add]; exact e j hj
theorem m_leagueText {T : Nat → Int} {L : Nat} {h : MH} (x : txOK T L) (l : L ≤ 240) (hl : h 97 6 = L) (e : ∀ j, j < L → h 98 j = T j) (d : Nat) :
    ∃ G2 a2, Run (d + 9) 184 0 [vR 97, vU] [] h = some (none, mg G2 a2 (flO (lgF T L 241 0 lsZ))) ∧ frM (stM h 98 0 L) G2 ∧ ∀ S2, (lgF T L 241 0 lsZ).2 = some S2 → dfM S2 G2 := by
  have t0 := stM_T x l e
  have lp : ∀ (r k : Nat) (G : MH), k + r = 4 → (∀ j, j < k → G 103 j = ro 121 j) → ∃ G1, Run (d + 9) 184 30 [vR 97, .inl (k : Int)] [] (mg G 0 (-1)) = Run (d + 9) 184 55 [vR 97, .inl 1] [] (mg G1 0 (-1)) ∧ (∀ c, c ≠ 103 → G1 c = G c) ∧ ∀ j, j < 4 → G1 103 j = ro 121 j := by
    intro r
    induction r with
    | zero =>
      intro k G hk hw
      rw [q184_30, if_pos (by omega)]
      exact ⟨G, rfl, fun _ _ => rfl, fun j hj => hw j (by omega)⟩
    | succ r ih =>
      intro k G hk hw
      have us := m_usual103 (d + 8) (mg G 0 (-1)) (k := k) (by omega)
      rw [q184_30, if_neg (by omega), us, cI_some, if_pos (by omega), show ((k : Nat) : Int).toNat = k by omega, mg_up _ _ _ _ (by omega), wI_ok (by omega) (by omega)]
      obtain ⟨G1, u1, u2, u3⟩ := ih (k + 1) (up G 103 k (ro 121 (0 + k))) (by omega) (fun j hj => by
        by_cases z : j = k
        · rw [z, up_s, Nat.zero_add]
        · rw [up_i z]; exact hw j (by omega))
      exact ⟨G1, u1, fun c hc => by rw [u2 c hc, up_ne hc], u3⟩
  have hd := q184_0 (d + 8) h
  have e0 : up (up (stM h 98 0 (L : Int)) 97 10 0) 97 11 (-1) = mg (stM h 98 0 (L : Int)) 0 (-1) := rfl
  have e1 : Run (d + 8) 185 0 [vR 97, vR 98, .inl 0, .inl (L : Int)] [] h = some (none, mg (stM h 98 0 (L : Int)) 0 (-1)) := q185_0 (d + 8) 0 L h
  rw [hl, e1, cV_some, mg_uf _ _ _ _ (by omega) (by omega), mg_uf _ _ _ _ (by omega) (by omega), mg_uf _ _ _ _ (by omega) (by omega)] at hd
  obtain ⟨G1, v1, v2, v3⟩ := lp 4 0 (up (up (up (stM h 98 0 (L : Int)) 97 28 0) 97 29 0) 97 31 0) (by omega) (fun j hj => by omega)
  have fr1 : frM (stM h 98 0 (L : Int)) G1 := ⟨fun c c1 c2 c3 c4 => by rw [v2 c c2, up_ne c1, up_ne c1, up_ne c1], fun j j1 j2 j3 => by rw [v2 _ (by omega), up_i j3, up_i j2, up_i j1]⟩
  obtain ⟨G2, a2, u1, u2, u3⟩ := m_readLg l (d + 1) 241 0 lsZ G1 (by omega) (by omega) (fr1.T t0) lsZ_b ⟨by rw [v2 _ (by omega), up_s]; rfl, by rw [v2 _ (by omega), up_i (by omega), up_i (by omega), up_s]; rfl, by rw [v2 _ (by omega), up_i (by omega), up_s]; rfl, v3, fun j hj => absurd hj (by show ¬ j < 0; omega), fun j hj => absurd hj (by show ¬ j < 0; omega)⟩
  exact ⟨G2, a2, hd.trans (v1.trans u1), fr1.tr u2, u3⟩
