/-! a league is told: the reference -/
theorem m_adopt {S : LgS} {h : MH} (s : dfM S h) (b1 : S.2.2.1.1 ≤ 8) (b2 : S.2.2.2.1 ≤ 5) (d : Nat) {z0 z1 : MV} (y0 : cat z0 = 1) (y1 : cat z1 = 1) (hf : h 97 26 = S.2.2.1.1) (hc : h 97 27 = S.2.2.2.1) :
    ∃ h2, Run (d + 1) 216 223 [vR 97, z0, z1, .inl 0] [] h = some (some (.inl (S.2.2.1.1 : Int)), h2) ∧ (∀ a j, a ≠ 102 → a ≠ 104 → a ≠ 106 → a ≠ 110 → ¬ (a = 97 ∧ (j = 46 ∨ j = 49 ∨ j = 37 ∨ j = 51)) → h2 a j = h a j) ∧ (∀ k, k < 4 → h2 102 k = S.2.1 k) ∧ (∀ j, j < 3 * S.2.2.1.1 → h2 104 j = S.2.2.1.2 j) ∧ (∀ j, j < 3 * S.2.2.2.1 → h2 106 j = S.2.2.2.2 j) ∧ (∀ j, j < 37 → h2 110 j = nmV S j) ∧ h2 97 46 = 0 ∧ h2 97 49 = 0 ∧ h2 97 37 = 0 ∧ h2 97 51 = 0 := by
  obtain ⟨s1, s2, s3, s4, s5, s6⟩ := s
  -- rules, forts, carriers
  have l1 : ∀ (r k : Nat) (G : MH), k + r = 4 → (∀ a, a ≠ 102 → G a = h a) → (∀ j, j < k → G 102 j = h 103 j) → ∃ G2, Run (d + 1) 216 223 [vR 97, z0, z1, .inl (k : Int)] [] G = Run (d + 1) 216 248 [vR 97, z0, z1, .inl 0] [] G2 ∧ (∀ a, a ≠ 102 → G2 a = h a) ∧ ∀ j, j < 4 → G2 102 j = h 103 j := by
    intro r
    induction r with
    | zero =>
      intro k G hk e1 e2
      exact ⟨G, by rw [q216_223 (hz0 := y0) (hz1 := y1), if_pos (by omega)], e1, fun j hj => e2 j (by omega)⟩
    | succ r ih =>
      intro k G hk e1 e2
      obtain ⟨G2, u1, u2, u3⟩ := ih (k + 1) (up G 102 k (h 103 k)) (by omega) (fun a ha => by rw [up_ne ha, e1 a ha]) (fun j hj => by
        by_cases z : j = k
        · rw [z, up_s]
        · rw [up_i z]; exact e2 j (by omega))
      refine ⟨G2, ?_, u2, u3⟩
      rw [← u1, q216_223 (hz0 := y0) (hz1 := y1), if_neg (by omega), if_pos (by omega), if_pos (by omega), show ((k : Nat) : Int).toNat = k by omega, e1 103 (by omega), wI_ok (by omega) (by omega)]
      rfl
  obtain ⟨Ga, a1, a2, a3⟩ := l1 4 0 h (by omega) (fun _ _ => rfl) (fun j hj => by omega)
  have l2 : ∀ (r k : Nat) (G : MH), k + r = 24 → (∀ a, a ≠ 104 → G a = Ga a) → (∀ j, j < k → G 104 j = h 105 j) → ∃ G2, Run (d + 1) 216 248 [vR 97, z0, z1, .inl (k : Int)] [] G = Run (d + 1) 216 274 [vR 97, z0, z1, .inl 0] [] G2 ∧ (∀ a, a ≠ 104 → G2 a = Ga a) ∧ ∀ j, j < 24 → G2 104 j = h 105 j := by
    intro r
    induction r with
    | zero =>
      intro k G hk e1 e2
      exact ⟨G, by rw [q216_248 (hz0 := y0) (hz1 := y1), if_pos (by omega)], e1, fun j hj => e2 j (by omega)⟩
    | succ r ih =>
      intro k G hk e1 e2
      obtain ⟨G2, u1, u2, u3⟩ := ih (k + 1) (up G 104 k (h 105 k)) (by omega) (fun a ha => by rw [up_ne ha, e1 a ha]) (fun j hj => by
        by_cases z : j = k
        · rw [z, up_s]
        · rw [up_i z]; exact e2 j (by omega))
      refine ⟨G2, ?_, u2, u3⟩
      rw [← u1, q216_248 (hz0 := y0) (hz1 := y1), if_neg (by omega), if_pos (by omega), if_pos (by omega), show ((k : Nat) : Int).toNat = k by omega, e1 105 (by omega), a2 105 (by omega), wI_ok (by omega) (by omega)]
      rfl
  obtain ⟨Gb, b3, b4, b5⟩ := l2 24 0 Ga (by omega) (fun _ _ => rfl) (fun j hj => by omega)
  have l3 : ∀ (r k : Nat) (G : MH), k + r = 15 → (∀ a, a ≠ 106 → G a = Gb a) → (∀ j, j < k → G 106 j = h 107 j) → ∃ G2, Run (d + 1) 216 274 [vR 97, z0, z1, .inl (k : Int)] [] G = Run (d + 1) 216 300 [vR 97, z0, z1, .inl 0] [] G2 ∧ (∀ a, a ≠ 106 → G2 a = Gb a) ∧ ∀ j, j < 15 → G2 106 j = h 107 j := by
    intro r
    induction r with
    | zero =>
      intro k G hk e1 e2
      exact ⟨G, by rw [q216_274 (hz0 := y0) (hz1 := y1), if_pos (by omega)], e1, fun j hj => e2 j (by omega)⟩
    | succ r ih =>
      intro k G hk e1 e2
      obtain ⟨G2, u1, u2, u3⟩ := ih (k + 1) (up G 106 k (h 107 k)) (by omega) (fun a ha => by rw [up_ne ha, e1 a ha]) (fun j hj => by
        by_cases z : j = k
        · rw [z, up_s]
        · rw [up_i z]; exact e2 j (by omega))
      refine ⟨G2, ?_, u2, u3⟩
      rw [← u1, q216_274 (hz0 := y0) (hz1 := y1), if_neg (by omega), if_pos (by omega), if_pos (by omega), show ((k : Nat) : Int).toNat = k by omega, e1 107 (by omega), b4 107 (by omega), a2 107 (by omega), wI_ok (by omega) (by omega)]
      rfl
  obtain ⟨Gc, c3, c4, c5⟩ := l3 15 0 Gb (by omega) (fun _ _ => rfl) (fun j hj => by omega)
  -- the state: zeros
  have l4 : ∀ (r k : Nat) (G : MH), k + r = 277 → (∀ a, a ≠ 110 → G a = Gc a) → (∀ j, j < k → G 110 j = 0) → ∃ G2, Run (d + 1) 216 300 [vR 97, z0, z1, .inl (k : Int)] [] G = Run (d + 1) 216 322 [vR 97, z0, z1, .inl 0] [] G2 ∧ (∀ a, a ≠ 110 → G2 a = Gc a) ∧ ∀ j, j < 277 → G2 110 j = 0 := by
    intro r
    induction r with
    | zero =>
      intro k G hk e1 e2
      exact ⟨G, by rw [q216_300 (hz0 := y0) (hz1 := y1), if_pos (by omega)], e1, fun j hj => e2 j (by omega)⟩
    | succ r ih =>
      intro k G hk e1 e2
      obtain ⟨G2, u1, u2, u3⟩ := ih (k + 1) (up G 110 k 0) (by omega) (fun a ha => by rw [up_ne ha, e1 a ha]) (fun j hj => by
        by_cases z : j = k
        · rw [z, up_s]
        · rw [up_i z]; exact e2 j (by omega))
      refine ⟨G2, ?_, u2, u3⟩
      rw [← u1, q216_300 (hz0 := y0) (hz1 := y1), if_neg (by omega), if_pos (by omega), show ((k : Nat) : Int).toNat = k by omega, wI_ok (by omega) (by omega)]
      rfl
  obtain ⟨Gd, d1, d2, d3⟩ := l4 277 0 Gc (by omega) (fun _ _ => rfl) (fun j hj => by omega)
  have fo : ∀ j, j < 3 * S.2.2.1.1 → Gc 104 j = S.2.2.1.2 j := fun j hj => by rw [c4 _ (by omega), b5 j (by omega)]; exact s5 j hj
  have ca : ∀ j, j < 3 * S.2.2.2.1 → Gc 106 j = S.2.2.2.2 j := fun j hj => by rw [c5 j (by omega)]; exact s6 j hj
  have ru : ∀ j, j < 4 → Gc 102 j = S.2.1 j := fun j hj => by rw [c4 _ (by omega), b4 _ (by omega), a3 j hj]; exact s4 j hj
  have mm : Gc 97 = h 97 := by rw [c4 _ (by omega), b4 _ (by omega), a2 _ (by omega)]
  -- the end
  obtain ⟨g6, hg6⟩ : ∃ g6 : MH → MH, g6 = fun G => up (up (up (up (up (up (up G 110 31 (S.2.1 2)) 110 32 (S.2.1 0)) 110 33 (S.2.1 1)) 97 46 0) 97 49 0) 97 37 0) 97 51 0 := ⟨_, rfl⟩
  have l6 : ∀ (r k : Nat) (G : MH), k + r = S.2.2.2.1 → (∀ a, a ≠ 110 → G a = Gc a) → (∀ j, j < 37 → G 110 j = if j < S.2.2.1.1 then S.2.2.1.2 (3 * j + 2) else if 16 ≤ j ∧ j < 16 + 3 * k ∧ (j - 16) % 3 = 0 then S.2.2.2.2 (j - 16 + 2) else 0) → ∃ G2, Run (d + 1) 216 356 [vR 97, z0, z1, .inl (k : Int)] [] G = some (some (.inl (S.2.2.1.1 : Int)), g6 G2) ∧ (∀ a, a ≠ 110 → G2 a = Gc a) ∧ ∀ j, j < 37 → G2 110 j = if j < S.2.2.1.1 then S.2.2.1.2 (3 * j + 2) else if 16 ≤ j ∧ j < 16 + 3 * S.2.2.2.1 ∧ (j - 16) % 3 = 0 then S.2.2.2.2 (j - 16 + 2) else 0 := by
    intro r
    induction r with
    | zero =>
      intro k G hk e1 e2
      have em := e1 97 (by omega)
      have er := e1 102 (by omega)
      have k5 : k = S.2.2.2.1 := by omega
      subst k5
      refine ⟨G, ?_, e1, e2⟩
      have r2 : G 102 2 = S.2.1 2 := by rw [er]; exact ru 2 (by omega)
      have r0 : up G 110 31 (S.2.1 2) 102 0 = S.2.1 0 := by rw [up_a (by omega), er]; exact ru 0 (by omega)
      have r1 : up (up G 110 31 (S.2.1 2)) 110 32 (S.2.1 0) 102 1 = S.2.1 1 := by rw [up_a (by omega), up_a (by omega), er]; exact ru 1 (by omega)
      have rf : g6 G 97 26 = S.2.2.1.1 := by rw [hg6]; dsimp only; rw [up_i (by omega), up_i (by omega), up_i (by omega), up_i (by omega), up_a (by omega), up_a (by omega), up_a (by omega), em, mm]; exact hf
      have e9 : g6 G = up (up (up (up (up (up (up G 110 31 (S.2.1 2)) 110 32 (S.2.1 0)) 110 33 (S.2.1 1)) 97 46 0) 97 49 0) 97 37 0) 97 51 0 := by rw [hg6]
      rw [q216_356 (hz0 := y0) (hz1 := y1), em, mm, hc, if_pos (by omega), r2, r0, r1, ← e9, rf]
    | succ r ih =>
      intro k G hk e1 e2
      have em := e1 97 (by omega)
      have ec := e1 106 (by omega)
      obtain ⟨G2, u1, u2, u3⟩ := ih (k + 1) (up G 110 (16 + 3 * k) (S.2.2.2.2 (3 * k + 2))) (by omega) (fun a ha => by rw [up_ne ha, e1 a ha]) (fun j hj => by
        by_cases z : j = 16 + 3 * k
        · rw [z, up_s, if_neg (by omega), if_pos (by omega), show 16 + 3 * k - 16 + 2 = 3 * k + 2 by omega]
        · rw [up_i z, e2 j hj]
          by_cases z2 : j < S.2.2.1.1
          · rw [if_pos z2, if_pos z2]
          · rw [if_neg z2, if_neg z2]
            by_cases z3 : 16 ≤ j ∧ j < 16 + 3 * k ∧ (j - 16) % 3 = 0
            · rw [if_pos z3, if_pos (by omega)]
            · rw [if_neg z3, if_neg (by omega)])
      refine ⟨G2, ?_, u2, u3⟩
      rw [← u1, q216_356 (hz0 := y0) (hz1 := y1), em, mm, hc, if_neg (by omega), q217_0, cI_some, wI_ok (x := 3 * (k : Int)) (by omega) (by omega), wI_ok (x := 16 + 3 * (k : Int)) (by omega) (by omega), wI_ok (x := 3 * (k : Int) + 2) (by omega) (by omega), if_pos (by omega), if_pos (by omega), show (3 * (k : Int) + 2).toNat = 3 * k + 2 by omega, show (16 + 3 * (k : Int)).toNat = 16 + 3 * k by omega, ec, ca (3 * k + 2) (by omega), wI_ok (by omega) (by omega)]
      rfl
  have l5 : ∀ (r k : Nat) (G : MH), k + r = S.2.2.1.1 → (∀ a, a ≠ 110 → G a = Gc a) → (∀ j, j < 37 → G 110 j = if j < k then S.2.2.1.2 (3 * j + 2) else 0) → ∃ G2, Run (d + 1) 216 322 [vR 97, z0, z1, .inl (k : Int)] [] G = some (some (.inl (S.2.2.1.1 : Int)), g6 G2) ∧ (∀ a, a ≠ 110 → G2 a = Gc a) ∧ ∀ j, j < 37 → G2 110 j = if j < S.2.2.1.1 then S.2.2.1.2 (3 * j + 2) else if 16 ≤ j ∧ j < 16 + 3 * S.2.2.2.1 ∧ (j - 16) % 3 = 0 then S.2.2.2.2 (j - 16 + 2) else 0 := by
    intro r
    induction r with
    | zero =>
      intro k G hk e1 e2
      have em := e1 97 (by omega)
      have k5 : k = S.2.2.1.1 := by omega
      subst k5
      obtain ⟨G2, u1, u2, u3⟩ := l6 S.2.2.2.1 0 G (by omega) e1 (fun j hj => by
        rw [e2 j hj]
        by_cases z : j < S.2.2.1.1
        · rw [if_pos z, if_pos z]
        · rw [if_neg z, if_neg z, if_neg (by omega)])
      refine ⟨G2, ?_, u2, u3⟩
      rw [q216_322 (hz0 := y0) (hz1 := y1), em, mm, hf, if_pos (by omega)]
      exact u1
    | succ r ih =>
      intro k G hk e1 e2
      have em := e1 97 (by omega)
      have ef := e1 104 (by omega)
      obtain ⟨G2, u1, u2, u3⟩ := ih (k + 1) (up G 110 k (S.2.2.1.2 (3 * k + 2))) (by omega) (fun a ha => by rw [up_ne ha, e1 a ha]) (fun j hj => by
        by_cases z : j = k
        · rw [z, up_s, if_pos (by omega)]
        · rw [up_i z, e2 j hj]
          by_cases z2 : j < k
          · rw [if_pos z2, if_pos (by omega)]
          · rw [if_neg z2, if_neg (by omega)])
      refine ⟨G2, ?_, u2, u3⟩
      rw [← u1, q216_322 (hz0 := y0) (hz1 := y1), em, mm, hf, if_neg (by omega), wI_ok (x := 3 * (k : Int)) (by omega) (by omega), wI_ok (x := 3 * (k : Int) + 2) (by omega) (by omega), wI_ok (x := 0 + (k : Int)) (by omega) (by omega), if_pos (by omega), if_pos (by omega), show (3 * (k : Int) + 2).toNat = 3 * k + 2 by omega, show (0 + (k : Int)).toNat = k by omega, ef, fo (3 * k + 2) (by omega), wI_ok (by omega) (by omega)]
      rfl
  obtain ⟨G2, u1, u2, u3⟩ := l5 S.2.2.1.1 0 Gd (by omega) d2 (fun j hj => by rw [d3 j (by omega), if_neg (by omega)])
  have hd : Run (d + 1) 216 223 [vR 97, z0, z1, .inl 0] [] h = some (some (.inl (S.2.2.1.1 : Int)), g6 G2) := a1.trans (b3.trans (c3.trans (d1.trans u1)))
  have e9 : g6 G2 = up (up (up (up (up (up (up G2 110 31 (S.2.1 2)) 110 32 (S.2.1 0)) 110 33 (S.2.1 1)) 97 46 0) 97 49 0) 97 37 0) 97 51 0 := by rw [hg6]
  rw [e9] at hd
  have s9 : ∀ (a j : Nat) (g : MH) (c k : Nat) (v : Int), ¬ (a = c ∧ j = k) → up g c k v a j = g a j := by
    intro a j g c k v ne
    by_cases z : a = c
    · subst z; exact up_i (fun y => ne ⟨rfl, y⟩)
    · exact up_a z
  have nn : ∀ a, a ≠ 110 → a ≠ 97 → up (up (up (up (up (up (up G2 110 31 (S.2.1 2)) 110 32 (S.2.1 0)) 110 33 (S.2.1 1)) 97 46 0) 97 49 0) 97 37 0) 97 51 0 a = Gc a := fun a n1 n2 => by rw [up_ne n2, up_ne n2, up_ne n2, up_ne n2, up_ne n1, up_ne n1, up_ne n1, u2 a n1]
  refine ⟨_, hd, fun a j n1 n2 n3 n4 n5 => ?_, fun k hk => ?_, fun j hj => ?_, fun j hj => ?_, fun j hj => ?_, ?_, ?_, ?_, ?_⟩
  · rw [s9 a j _ _ _ _ (by omega), s9 a j _ _ _ _ (by omega), s9 a j _ _ _ _ (by omega), s9 a j _ _ _ _ (by omega), up_ne n4, up_ne n4, up_ne n4, u2 a n4, c4 a n3, b4 a n2, a2 a n1]
  · rw [nn _ (by omega) (by omega)]; exact ru k hk
  · rw [nn _ (by omega) (by omega)]; exact fo j hj
  · rw [nn _ (by omega) (by omega)]; exact ca j hj
  · rw [up_ne (by omega), up_ne (by omega), up_ne (by omega), up_ne (by omega)]
    unfold nmV
    by_cases z1 : j = 33
    · subst z1
      rw [up_s, if_neg (by omega), if_neg (by omega), if_neg (by omega), if_pos rfl]
    · rw [up_i z1]
      by_cases z2 : j = 32
      · subst z2
        rw [up_s, if_neg (by omega), if_neg (by omega), if_pos rfl]
      · rw [up_i z2]
        by_cases z3 : j = 31
        · subst z3
          rw [up_s, if_neg (by omega), if_pos rfl]
        · rw [up_i z3, u3 j hj, if_neg z3, if_neg z2, if_neg z1]
  · rw [up_i (by omega), up_i (by omega), up_i (by omega), up_s]
  · rw [up_i (by omega), up_i (by omega), up_s]
  · rw [up_i (by omega), up_s]
  · rw [up_s]
def coG (a j : Nat) : Prop := (a = 1 ∧ j = 1) ∨ (a = 97 ∧ (j = 6 ∨ j = 26 ∨ j = 27 ∨ j = 46 ∨ j = 49 ∨ j = 37 ∨ j = 51)) ∨ a = 16 ∨ a = 17 ∨ a = 18 ∨ a = 2 ∨ a = 91 ∨ (a = 11 ∧ j = 0) ∨ a = 10 ∨ a = 39 ∨ (a = 0 ∧ j = 13) ∨ a = 102 ∨ a = 104 ∨ a = 106 ∨ a = 110 ∨ (a = 108 ∧ 256 ≤ j) ∨ (a = 109 ∧ j = 4)
theorem nc_R {S : LgS} (b1 : S.2.2.1.1 ≤ 8) (b2 : S.2.2.2.1 ≤ 5) {c v : Nat → Int} (hc : ∀ j, j < 37 → c j = ncF S j) (hv : ∀ j, j < 37 → v j = nmV S j) : stR c v := by
  refine ⟨fun f hf => ⟨?_, ?_⟩, fun k hk => ⟨?_, ?_, ?_⟩, ?_, ?_, ?_, ?_, ?_, ?_⟩
  · rw [hc _ (by omega), hv _ (by omega)]
    unfold ncF nmV
    rw [if_neg (c := 21 + f = 0) (by omega), if_neg (c := 21 + f = 1) (by omega), if_neg (c := 21 + f = 2) (by omega), if_neg (c := 6 ≤ 21 + f ∧ 21 + f < 6 + S.2.2.2.1) (by omega)]
    by_cases z : f < S.2.2.1.1
    · rw [if_pos z, if_pos (c := 21 ≤ 21 + f ∧ 21 + f < 21 + S.2.2.1.1) (by omega), show 21 + f - 21 = f by omega]
    · rw [if_neg z, if_neg (by omega), if_neg (by omega), if_neg (by omega), if_neg (by omega), if_neg (c := 21 ≤ 21 + f ∧ 21 + f < 21 + S.2.2.1.1) (by omega)]
  · rw [hc _ (by omega), hv _ (by omega)]
    unfold ncF nmV
    rw [if_neg (c := 29 + f = 0) (by omega), if_neg (c := 29 + f = 1) (by omega), if_neg (c := 29 + f = 2) (by omega), if_neg (c := 6 ≤ 29 + f ∧ 29 + f < 6 + S.2.2.2.1) (by omega), if_neg (c := 21 ≤ 29 + f ∧ 29 + f < 21 + S.2.2.1.1) (by omega), if_neg (c := 8 + f < S.2.2.1.1) (by omega), if_neg (by omega), if_neg (by omega), if_neg (by omega), if_neg (by omega)]
  · rw [hc _ (by omega), hv _ (by omega)]
    unfold ncF nmV
    rw [if_neg (c := 6 + k = 0) (by omega), if_neg (c := 6 + k = 1) (by omega), if_neg (c := 6 + k = 2) (by omega), if_neg (c := 16 + 3 * k < S.2.2.1.1) (by omega), if_neg (c := 16 + 3 * k = 31) (by omega), if_neg (c := 16 + 3 * k = 32) (by omega), if_neg (c := 16 + 3 * k = 33) (by omega)]
    by_cases z : k < S.2.2.2.1
    · rw [if_pos (c := 16 ≤ 16 + 3 * k ∧ 16 + 3 * k < 16 + 3 * S.2.2.2.1 ∧ (16 + 3 * k - 16) % 3 = 0) (by omega), if_pos (c := 6 ≤ 6 + k ∧ 6 + k < 6 + S.2.2.2.1) (by omega), show 16 + 3 * k - 16 + 2 = 3 * k + 2 by omega, show 3 * (6 + k - 6) + 2 = 3 * k + 2 by omega]
    · rw [if_neg (c := 16 ≤ 16 + 3 * k ∧ 16 + 3 * k < 16 + 3 * S.2.2.2.1 ∧ (16 + 3 * k - 16) % 3 = 0) (by omega), if_neg (c := 6 ≤ 6 + k ∧ 6 + k < 6 + S.2.2.2.1) (by omega), if_neg (c := 21 ≤ 6 + k ∧ 6 + k < 21 + S.2.2.1.1) (by omega)]
  · rw [hc _ (by omega), hv _ (by omega)]
    unfold ncF nmV
    rw [if_neg (c := 11 + k = 0) (by omega), if_neg (c := 11 + k = 1) (by omega), if_neg (c := 11 + k = 2) (by omega), if_neg (c := 6 ≤ 11 + k ∧ 11 + k < 6 + S.2.2.2.1) (by omega), if_neg (c := 21 ≤ 11 + k ∧ 11 + k < 21 + S.2.2.1.1) (by omega), if_neg (c := 17 + 3 * k < S.2.2.1.1) (by omega), if_neg (by omega), if_neg (by omega), if_neg (by omega), if_neg (by omega)]
  · rw [hc _ (by omega), hv _ (by omega)]
    unfold ncF nmV
    rw [if_neg (c := 16 + k = 0) (by omega), if_neg (c := 16 + k = 1) (by omega), if_neg (c := 16 + k = 2) (by omega), if_neg (c := 6 ≤ 16 + k ∧ 16 + k < 6 + S.2.2.2.1) (by omega), if_neg (c := 21 ≤ 16 + k ∧ 16 + k < 21 + S.2.2.1.1) (by omega), if_neg (c := 18 + 3 * k < S.2.2.1.1) (by omega), if_neg (by omega), if_neg (by omega), if_neg (by omega), if_neg (by omega)]
  · rw [hc _ (by omega), hv _ (by omega)]
    unfold ncF nmV
    rw [if_pos (c := (0 : Nat) = 0) rfl, if_neg (by omega), if_pos rfl]
  · rw [hc _ (by omega), hv _ (by omega)]
    unfold ncF nmV
    rw [if_neg (c := (1 : Nat) = 0) (by omega), if_pos (c := (1 : Nat) = 1) rfl, if_neg (by omega), if_neg (by omega), if_pos rfl]
  · rw [hc _ (by omega), hv _ (by omega)]
    unfold ncF nmV
    rw [if_neg (c := (2 : Nat) = 0) (by omega), if_neg (c := (2 : Nat) = 1) (by omega), if_pos (c := (2 : Nat) = 2) rfl, if_neg (by omega), if_neg (by omega), if_neg (by omega), if_pos rfl]
  · rw [hc _ (by omega), hv _ (by omega)]
    unfold ncF nmV
    rw [if_neg (c := (3 : Nat) = 0) (by omega), if_neg (c := (3 : Nat) = 1) (by omega), if_neg (c := (3 : Nat) = 2) (by omega), if_neg (c := 6 ≤ 3 ∧ 3 < 6 + S.2.2.2.1) (by omega), if_neg (c := 21 ≤ 3 ∧ 3 < 21 + S.2.2.1.1) (by omega), if_neg (by omega), if_neg (by omega), if_neg (by omega), if_neg (by omega), if_neg (by omega)]
  · rw [hc _ (by omega), hv _ (by omega)]
    unfold ncF nmV
    rw [if_neg (c := (4 : Nat) = 0) (by omega), if_neg (c := (4 : Nat) = 1) (by omega), if_neg (c := (4 : Nat) = 2) (by omega), if_neg (c := 6 ≤ 4 ∧ 4 < 6 + S.2.2.2.1) (by omega), if_neg (c := 21 ≤ 4 ∧ 4 < 21 + S.2.2.1.1) (by omega), if_neg (by omega), if_neg (by omega), if_neg (by omega), if_neg (by omega), if_neg (by omega)]
  · rw [hc _ (by omega), hv _ (by omega)]
    have e : ncF S 5 = 0 := by
      unfold ncF
      rw [if_neg (c := (5 : Nat) = 0) (by omega), if_neg (c := (5 : Nat) = 1) (by omega), if_neg (c := (5 : Nat) = 2) (by omega), if_neg (c := 6 ≤ 5 ∧ 5 < 6 + S.2.2.2.1) (by omega), if_neg (c := 21 ≤ 5 ∧ 5 < 21 + S.2.2.1.1) (by omega)]
    rw [e, if_pos (by omega)]
    unfold nmV
    rw [if_neg (by omega), if_neg (by omega), if_neg (by omega), if_neg (by omega), if_neg (by omega)]
