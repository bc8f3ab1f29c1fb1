/-! laws: the reference's sums, conditions, clauses -/
theorem zOK_u : zOK vU vU vU := ⟨rfl, rfl, Or.inl rfl⟩
theorem zOK_j (y w : Int) : zOK (.inl y) (.inr (.inl w)) vU := ⟨rfl, rfl, Or.inr ⟨w, rfl⟩⟩
/-- what follows a term -/
noncomputable def KF (d : Nat) (w x : Int) : Int → MH → Option (Option MV × MH) := fun t h => if w = -1 then Run (d + 2) 206 5 [vR 97, .inl t, vU, vU, vU] [] h else Run (d + 2) 206 5 [vR 97, .inl (jvF w x t), .inl (bi (w = 2)), .inr (.inl t), vU] [] h
theorem KF_F (d : Nat) (w x t : Int) (G : MH) (q : Nat) : ∃ y, KF d w x t (mg G q q) = some (some (.inl y), mg G q q) := by
  unfold KF
  by_cases z : w = -1
  · rw [if_pos z, m_sumF (d + 1) G q (by omega) t zOK_u]; exact ⟨_, rfl⟩
  · rw [if_neg z, m_sumF (d + 1) G q (by omega) _ (zOK_j _ _)]; exact ⟨_, rfl⟩
theorem KF_S {T : Nat → Int} {L : Nat} {G : MH} (t : RT T L G) (l9 : L ≤ 240) (d : Nat) {a : Nat} (ha : a ≤ L) (w : Int) (vs vt : VF) : KF d w (vs (ltM G)) (vt (ltM G)) (mg G a (-1)) = if jnF T L (skF T L a) = 2 ∨ jnF T L (skF T L a) = 3 then cI (Run (d + 1) 207 0 [vR 97, vU, vU, vU, vU] [] (mg G (skF T L a + 1) (-1))) (KF d (jnF T L (skF T L a)) (fvF w vs vt (ltM G))) else some (some (.inl (fvF w vs vt (ltM G))), mg G (skF T L a) (-1)) := by
  have kk : ∀ (j x : Int), ¬ j = -1 → KF d j x = fun t h => Run (d + 2) 206 5 [vR 97, .inl (jvF j x t), .inl (bi (j = 2)), .inr (.inl t), vU] [] h := by
    intro j x hj
    unfold KF
    funext t h
    rw [if_neg hj]
  have g : ∀ (x0 : Int) (z1 z2 z3 : MV), zOK z1 z2 z3 → x0 = fvF w vs vt (ltM G) → Run (d + 2) 206 5 [vR 97, .inl x0, z1, z2, z3] [] (mg G a (-1)) = if jnF T L (skF T L a) = 2 ∨ jnF T L (skF T L a) = 3 then cI (Run (d + 1) 207 0 [vR 97, vU, vU, vU, vU] [] (mg G (skF T L a + 1) (-1))) (KF d (jnF T L (skF T L a)) (fvF w vs vt (ltM G))) else some (some (.inl (fvF w vs vt (ltM G))), mg G (skF T L a) (-1)) := by
    intro x0 z1 z2 z3 zz ex
    rw [m_sumS t l9 (d + 1) ha zz]
    by_cases q : jnF T L (skF T L a) = 2 ∨ jnF T L (skF T L a) = 3
    · rw [if_pos q, if_pos q, kk _ _ (by omega), ex]
    · rw [if_neg q, if_neg q, ex]
  unfold KF
  by_cases z : w = -1
  · rw [if_pos z]
    exact g _ _ _ _ zOK_u (by unfold fvF; rw [if_pos z])
  · rw [if_neg z]
    exact g _ _ _ _ (zOK_j _ _) (by unfold fvF; rw [if_neg z])
theorem m_sumLoop {T : Nat → Int} {L : Nat} (l9 : L ≤ 240) (d : Nat) {D : Int} {at_ : Nat → PR} (hp : PL L at_) (hs : MPp T L D (fun g => Run d 208 0 [vR 97, vU, vU, vU] [] g) at_) :
    ∀ (r a : Nat) (w : Int) (cs : List Int) (vs vt : VF) (z1 z2 z3 : MV) (G : MH), 241 ≤ a + r → a ≤ L → RT T L G → G 97 12 = D → zOK z1 z2 z3 →
      MO G (smL T L at_ r a w cs vs vt) (cI (Run (d + 1) 207 5 [vR 97, .inl (vt (ltM G)), z1, z2, z3] [] (mg G a (-1))) (KF d w (vs (ltM G)))) := by
  intro r
  induction r with
  | zero =>
    intro a w cs vs vt z1 z2 z3 G hr ha t hD zz
    omega
  | succ r ih =>
    intro a w cs vs vt z1 z2 z3 G hr ha t hD zz
    have l1 := sk_le T L a
    have l2 := sk_L (T := T) ha
    unfold smL
    rw [m_termL t l9 d ha zz]
    rcases jn_c T L (skF T L a) with q | ⟨q, q2⟩
    · rw [if_pos q, if_neg (by omega), cI_some, KF_S t l9 d l2, sk_sk ha, if_neg (by omega)]
      exact MO_s rfl
    · rw [if_neg (by omega)]
      have g := hs G (skF T L a + 1) q2 t hD
      have gp := hp (skF T L a + 1) q2
      by_cases q4 : jnF T L (skF T L a) = 2 ∨ jnF T L (skF T L a) = 3
      · rw [if_neg (by omega), cI_some, KF_S t l9 d l2, sk_sk ha, if_pos q4, q207_0]
        generalize at_ (skF T L a + 1) = o at g gp ⊢
        obtain ⟨q5, o⟩ := o
        have g1 : skF T L a + 1 ≤ q5 := gp.1
        cases o with
        | none =>
          obtain ⟨x, G2, u1, u2⟩ := g.2 q5 rfl
          have u1' : Run d 208 0 [vR 97, vU, vU, vU] [] (mg G (skF T L a + 1) (-1)) = some (some (.inl x), mg G2 q5 q5) := u1
          rw [u1', cI_some, m_termF d G2 q5 (by omega) x zOK_u, cI_some]
          obtain ⟨y, hy⟩ := KF_F d (jnF T L (skF T L a)) (fvF w vs vt (ltM G)) x G2 q5
          exact MO_n hy u2
        | some cv =>
          obtain ⟨c, v⟩ := cv
          have u1 := g.1 q5 c v rfl
          have u1' : Run d 208 0 [vR 97, vU, vU, vU] [] (mg G (skF T L a + 1) (-1)) = some (some (.inl (v (ltM G))), mg G q5 (-1)) := u1
          rw [u1', cI_some]
          dsimp only
          rw [if_pos q4]
          exact ih q5 _ _ _ v vU vU vU G (by omega) gp.2.1 t hD zOK_u
      · rw [if_pos (by omega)]
        generalize at_ (skF T L a + 1) = o at g gp ⊢
        obtain ⟨q5, o⟩ := o
        have g1 : skF T L a + 1 ≤ q5 := gp.1
        cases o with
        | none =>
          obtain ⟨x, G2, u1, u2⟩ := g.2 q5 rfl
          have u1' : Run d 208 0 [vR 97, vU, vU, vU] [] (mg G (skF T L a + 1) (-1)) = some (some (.inl x), mg G2 q5 q5) := u1
          rw [u1', cI_some, m_termF d G2 q5 (by omega) _ (zOK_j _ _), cI_some]
          obtain ⟨y, hy⟩ := KF_F d w (vs (ltM G)) (jvF (jnF T L (skF T L a)) (vt (ltM G)) x) G2 q5
          exact MO_n hy u2
        | some cv =>
          obtain ⟨c, v⟩ := cv
          have u1 := g.1 q5 c v rfl
          have u1' : Run d 208 0 [vR 97, vU, vU, vU] [] (mg G (skF T L a + 1) (-1)) = some (some (.inl (v (ltM G))), mg G q5 (-1)) := u1
          rw [u1', cI_some]
          dsimp only
          rw [if_neg q4]
          exact ih q5 w _ vs (fun lt => jvF (jnF T L (skF T L a)) (vt lt) (v lt)) _ _ vU G (by omega) gp.2.1 t hD (zOK_j _ _)
theorem m_sum {T : Nat → Int} {L : Nat} (l9 : L ≤ 240) (d : Nat) {D : Int} {at_ : Nat → PR} (hp : PL L at_) (hs : MPp T L D (fun g => Run d 208 0 [vR 97, vU, vU, vU] [] g) at_) : MPp T L D (fun g => Run (d + 2) 206 0 [vR 97, vU, vU, vU, vU] [] g) (suF T L at_) := by
  intro G a ha t hD
  have g := hs G a ha t hD
  have gp := hp a ha
  have hd := q206_0 (d + 1) (mg G a (-1))
  rw [q207_0] at hd
  unfold suF
  generalize at_ a = o at g gp ⊢
  obtain ⟨q5, o⟩ := o
  cases o with
  | none =>
    obtain ⟨x, G2, u1, u2⟩ := g.2 q5 rfl
    have u1' : Run d 208 0 [vR 97, vU, vU, vU] [] (mg G a (-1)) = some (some (.inl x), mg G2 q5 q5) := u1
    rw [u1', cI_some, m_termF d G2 q5 (by omega) x zOK_u, cI_some, m_sumF (d + 1) G2 q5 (by omega) x zOK_u] at hd
    exact MO_n hd u2
  | some cv =>
    obtain ⟨c, v⟩ := cv
    have u1 := g.1 q5 c v rfl
    have u1' : Run d 208 0 [vR 97, vU, vU, vU] [] (mg G a (-1)) = some (some (.inl (v (ltM G))), mg G q5 (-1)) := u1
    rw [u1', cI_some] at hd
    have ii := m_sumLoop l9 d hp hs 241 q5 (-1) c (fun _ => 0) v vU vU vU G (by omega) gp.2.1 t hD zOK_u
    have ek : KF d (-1) ((fun _ => 0 : VF) (ltM G)) = fun t h => Run (d + 2) 206 5 [vR 97, .inl t, vU, vU, vU] [] h := by
      unfold KF
      funext t h
      rw [if_pos rfl]
    rw [ek] at ii
    have hd' : Run (d + 2) 206 0 [vR 97, vU, vU, vU, vU] [] (mg G a (-1)) = cI (Run (d + 1) 207 5 [vR 97, .inl (v (ltM G)), vU, vU, vU] [] (mg G q5 (-1))) fun t h => Run (d + 2) 206 5 [vR 97, .inl t, vU, vU, vU] [] h := hd
    show MO G _ (Run (d + 2) 206 0 [vR 97, vU, vU, vU, vU] [] (mg G a (-1)))
    rw [hd']
    exact ii
theorem m_lvA (T : Nat → Int) {L : Nat} (l9 : L ≤ 240) : ∀ (k d : Nat), k ≤ 6 → MPp T L (6 - (k : Int)) (fun g => Run (d + 3 * k + 6) 208 0 [vR 97, vU, vU, vU] [] g) (lvA T L k)
  | 0, d, _ => m_atom l9 d (by omega) (by omega) (by constructor <;> intro z <;> first | cases z | omega) (no_P L) (fun z => by cases z)
  | k + 1, d, hk => by
    have ih := m_sum l9 (d + 3 * k + 6) (lvA_P T L k) (m_lvA T l9 k d (by omega))
    have e := m_atom (T := T) (L := L) l9 (d + 3 * k + 3) (D := 6 - ((k + 1 : Nat) : Int)) (by omega) (by omega) (ok := true) (by constructor <;> intro _ <;> first | rfl | omega) (smF_P (lvA_P T L k)) (fun _ => by
      rw [show (6 - ((k + 1 : Nat) : Int) + 1) = 6 - (k : Int) by omega]
      exact ih)
    exact e
theorem m_lvS (T : Nat → Int) {L : Nat} (l9 : L ≤ 240) (k d : Nat) (hk : k ≤ 6) : MPp T L (6 - (k : Int)) (fun g => Run (d + 3 * k + 8) 206 0 [vR 97, vU, vU, vU, vU] [] g) (lvS T L k) := m_sum l9 (d + 3 * k + 6) (lvA_P T L k) (m_lvA T l9 k d hk)
/-! truths -/
abbrev MB (G : MH) (o : PR) (r : Option (Option MV × MH)) : Prop := (∀ q c v, o = (q, some (c, v)) → r = some (some (.inl (v (ltM G))), mg G q (-1)) ∧ ∀ lt, v lt = 0 ∨ v lt = 1) ∧ ∀ q, o = (q, none) → ∃ (x : Int) (G2 : MH), r = some (some (.inl x), mg G2 q q) ∧ dpE G G2 ∧ (x = 0 ∨ x = 1)
def MBp (T : Nat → Int) (L : Nat) (D : Int) (X : MH → Option (Option MV × MH)) (p : Nat → PR) : Prop := ∀ (G : MH) (a : Nat), a ≤ L → RT T L G → G 97 12 = D → MB G (p a) (X (mg G a (-1)))
theorem MB_n {G G2 : MH} {q : Nat} {x : Int} {r : Option (Option MV × MH)} (e : r = some (some (.inl x), mg G2 q q)) (f : dpE G G2) (x01 : x = 0 ∨ x = 1) : MB G (q, none) r := ⟨fun q' c v z => (by cases z), fun q' z => by
  have : q = q' := congrArg Prod.fst z
  subst this
  exact ⟨x, G2, e, f, x01⟩⟩
theorem MB_s {G : MH} {q : Nat} {c : List Int} {v : VF} {r : Option (Option MV × MH)} (e : r = some (some (.inl (v (ltM G))), mg G q (-1))) (b : ∀ lt, v lt = 0 ∨ v lt = 1) : MB G (q, some (c, v)) r := ⟨fun q' c' v' z => by
  cases z
  exact ⟨e, b⟩, fun q' z => (by cases z)⟩
theorem cv6 (x y : Int) : cvF 6 x y = bi (x = y) := rfl
theorem cv7 (x y : Int) : cvF 7 x y = bi (x < y) := rfl
theorem cv8 (x y : Int) : cvF 8 x y = bi (y < x) := rfl
theorem cv_01 (s x y : Int) : cvF s x y = 0 ∨ cvF s x y = 1 := by
  unfold cvF
  split
  · exact bi_01 _
  split
  · exact bi_01 _
  · exact bi_01 _
theorem m_sign {T : Nat → Int} {L p : Nat} (x : txOK T L) (d : Nat) (h : MH) : Run d 211 0 [.inl (lkG T L p)] [] h = some (some (.inl (bi (¬ cgF T L p = -1))), h) := by
  have k1 := lk_sg (p := p) x (s := 60) (by omega) (by omega)
  have k2 := lk_sg (p := p) x (s := 61) (by omega) (by omega)
  have k3 := lk_sg (p := p) x (s := 62) (by omega) (by omega)
  rw [q211_0]
  by_cases q2 : sgF T L p 61
  · have n1 : ¬ sgF T L p 60 := fun z => by have := z.2; have := q2.2; omega
    rw [if_pos (k2.2 q2), bi_t (by unfold cgF; rw [if_neg n1, if_pos q2]; omega)]
  · rw [if_neg (fun z => q2 (k2.1 z))]
    by_cases q1 : sgF T L p 60
    · rw [if_pos (k1.2 q1), bi_t (by unfold cgF; rw [if_pos q1]; omega)]
    · rw [if_neg (fun z => q1 (k1.1 z))]
      by_cases q3 : sgF T L p 62
      · rw [if_neg (fun z => z (k3.2 q3)), bi_t (by unfold cgF; rw [if_neg q1, if_neg q2, if_pos q3]; omega)]
      · rw [if_pos (fun z => q3 (k3.1 z)), bi_f (by unfold cgF; rw [if_neg q1, if_neg q2, if_neg q3]; exact fun z => z rfl)]
theorem m_cmpT {T : Nat → Int} {L : Nat} (l9 : L ≤ 240) (d : Nat) {D : Int} {sum : Nat → PR} (hp : PL L sum) (hs : MPp T L D (fun g => Run d 206 0 [vR 97, vU, vU, vU, vU] [] g) sum) {G : MH} {a : Nat} {c1 : List Int} {v1 : VF} {z0 z1 z2 z3 z4 : MV} (ha : a ≤ L) (t : RT T L G) (hD : G 97 12 = D) (y0 : cat z0 = 1) (y1 : cat z1 = 1) (y2 : cat z2 = 1) (y3 : cat z3 = 1) (y4 : cat z4 = 1) :
    MB G (cmF T L sum a c1 v1) (Run (d + 1) 205 12 [vR 97, z0, z1, z2, z3, z4] [.inl (v1 (ltM G))] (mg G a (-1))) := by
  have l2 := sk_L (T := T) ha
  have hd := q205_12 d z0 y0 z1 y1 z2 y2 z3 y3 z4 y4 (v1 (ltM G)) (mg G a (-1))
  rw [mg_fl, if_pos rfl, m_look t _ _ ha, cI_some, m_sign t.2, cI_some] at hd
  unfold cmF
  rcases cg_c T L (skF T L a) with q | ⟨q, q2⟩
  · rw [bi_f (fun z => z q), if_neg (fun z => z rfl), m_fails, cI_some, if_pos rfl, if_pos (Or.inl rfl)] at hd
    rw [if_pos q]
    exact MB_n hd (dpE.rf G) (Or.inl rfl)
  · rw [bi_t (by omega), if_pos (by omega), mg_nx _ _ (by omega)] at hd
    rw [if_neg (by omega)]
    have g := hs G (skF T L a + 1) q2 t hD
    have gp := hp (skF T L a + 1) q2
    have k1 := lk_sg (p := skF T L a) t.2 (s := 60) (by omega) (by omega)
    have k2 := lk_sg (p := skF T L a) t.2 (s := 61) (by omega) (by omega)
    have fin : ∀ (y : Int) (h7 : MH), (if ¬ lkG T L (skF T L a) = 61 then (if ¬ lkG T L (skF T L a) = 60 then (if v1 (ltM G) ≤ y then some (some (.inl 0), h7) else some (some (.inl 1), h7)) else (if y ≤ v1 (ltM G) then some (some (.inl 0), h7) else some (some (.inl 1), h7))) else (if ¬ v1 (ltM G) = y then some (some (.inl 0), h7) else some (some (.inl 1), h7)) : Option (Option MV × MH)) = some (some (.inl (cvF (cgF T L (skF T L a)) (v1 (ltM G)) y)), h7) := by
      intro y h7
      by_cases q3 : sgF T L (skF T L a) 61
      · have n1 : ¬ sgF T L (skF T L a) 60 := fun z => by have := z.2; have := q3.2; omega
        have ec : cgF T L (skF T L a) = 6 := by unfold cgF; rw [if_neg n1, if_pos q3]
        rw [if_neg (fun z => z (k2.2 q3)), ec, cv6]
        by_cases z : v1 (ltM G) = y
        · rw [if_neg (fun w => w z), bi_t z]
        · rw [if_pos z, bi_f z]
      · rw [if_pos (fun z => q3 (k2.1 z))]
        by_cases q4 : sgF T L (skF T L a) 60
        · have ec : cgF T L (skF T L a) = 7 := by unfold cgF; rw [if_pos q4]
          rw [if_neg (fun z => z (k1.2 q4)), ec, cv7]
          by_cases z : y ≤ v1 (ltM G)
          · rw [if_pos z, bi_f (by omega)]
          · rw [if_neg z, bi_t (by omega)]
        · have ec : cgF T L (skF T L a) = 8 := by
            unfold cgF at q ⊢
            rw [if_neg q4, if_neg q3] at q ⊢
            by_cases q5 : sgF T L (skF T L a) 62
            · rw [if_pos q5]
            · rw [if_neg q5] at q; omega
          rw [if_pos (fun z => q4 (k1.1 z)), ec, cv8]
          by_cases z : v1 (ltM G) ≤ y
          · rw [if_pos z, bi_f (by omega)]
          · rw [if_neg z, bi_t (by omega)]
    generalize sum (skF T L a + 1) = o at g gp ⊢
    obtain ⟨q5, o⟩ := o
    cases o with
    | none =>
      obtain ⟨x, G2, u1, u2⟩ := g.2 q5 rfl
      have u1' : Run d 206 0 [vR 97, vU, vU, vU, vU] [] (mg G (skF T L a + 1) (-1)) = some (some (.inl x), mg G2 q5 q5) := u1
      rw [u1', cI_some, fin] at hd
      exact MB_n hd u2 (cv_01 _ _ _)
    | some cv =>
      obtain ⟨c, v⟩ := cv
      have u1 := g.1 q5 c v rfl
      have u1' : Run d 206 0 [vR 97, vU, vU, vU, vU] [] (mg G (skF T L a + 1) (-1)) = some (some (.inl (v (ltM G))), mg G q5 (-1)) := u1
      rw [u1', cI_some, fin] at hd
      exact MB_s (v := fun lt => cvF (cgF T L (skF T L a)) (v1 lt) (v lt)) hd (fun lt => cv_01 _ _ _)
theorem m_unit {T : Nat → Int} {L : Nat} (l9 : L ≤ 240) (d : Nat) {D : Int} (D0 : 0 ≤ D) (D6 : D ≤ 6) {ok : Bool} (hok : ok = true ↔ D < 6) {subU subC sum : Nat → PR} (pU : PL L subU) (pC : PL L subC) (pS : PL L sum)
    (hU : ok = true → MBp T L (D + 1) (fun g => Run (d + 1) 212 0 [vR 97, vU, vU] [] g) subU)
    (hC : ok = true → MBp T L (D + 1) (fun g => Run (d + 1) 203 0 [vR 97, .inl 0, .inl 0, vU, vU] [] g) subC)
    (hS : MPp T L D (fun g => Run d 206 0 [vR 97, vU, vU, vU, vU] [] g) sum) :
    MBp T L D (fun g => Run (d + 2) 212 0 [vR 97, vU, vU] [] g) (unF T L ok subU subC sum) := by
  intro G a ha t hD
  obtain ⟨p, hp0⟩ : ∃ p, p = skF T L a := ⟨_, rfl⟩
  have pL : p ≤ L := by rw [hp0]; exact sk_L ha
  have hd := q212_0 (d + 1) (mg G a (-1))
  rw [m_look t _ _ ha, cI_some, ← hp0] at hd
  have k1 := lk_sg (p := p) t.2 (s := 33) (by omega) (by omega)
  have k2 := lk_sg (p := p) t.2 (s := 40) (by omega) (by omega)
  have gi := m_goesIn d (G := G) (p := p) (by omega) hD D0 D6
  have f1 := dp_up G (D + 1)
  have t1 := f1.R t
  unfold unF
  rw [← hp0]
  by_cases z1 : sgF T L p 33
  · rw [if_neg (fun z => z (k1.2 z1)), gi] at hd
    rw [if_pos z1]
    by_cases z2 : ok = true
    · rw [if_pos (hok.1 z2), cI_some, if_pos (by omega)] at hd
      rw [if_pos z2]
      have g := hU z2 (up G 97 12 (D + 1)) (p + 1) z1.1 t1 (up_s _ _ _ _)
      unfold ntF
      generalize subU (p + 1) = o at g ⊢
      obtain ⟨q5, o⟩ := o
      cases o with
      | none =>
        obtain ⟨x, G2, u1, u2, u3⟩ := g.2 q5 rfl
        have u1' : Run (d + 1) 212 0 [vR 97, vU, vU] [] (mg (up G 97 12 (D + 1)) (p + 1) (-1)) = some (some (.inl x), mg G2 q5 q5) := u1
        rw [u1', cI_some, mg_uf _ _ _ _ (by omega) (by omega)] at hd
        by_cases x0 : x = 0
        · rw [if_neg (fun z => z x0)] at hd
          exact MB_n hd ((f1.tr u2).tr (dp_up _ _)) (Or.inr rfl)
        · rw [if_pos x0] at hd
          exact MB_n hd ((f1.tr u2).tr (dp_up _ _)) (Or.inl rfl)
      | some cv =>
        obtain ⟨c, v⟩ := cv
        obtain ⟨u1, u2⟩ := g.1 q5 c v rfl
        have u1' : Run (d + 1) 212 0 [vR 97, vU, vU] [] (mg (up G 97 12 (D + 1)) (p + 1) (-1)) = some (some (.inl (v (ltM (up G 97 12 (D + 1))))), mg (up G 97 12 (D + 1)) q5 (-1)) := u1
        rw [u1', cI_some, mg_o _ _ _ (by omega) (by omega), up_s, wI_ok (by omega) (by omega), mg_uf _ _ _ _ (by omega) (by omega), up_twice, show D + 1 - 1 = G 97 12 by omega, up_same, f1.l] at hd
        refine MB_s (v := fun lt => 1 - v lt) ?_ (fun lt => by have := u2 lt; omega)
        have b := u2 (ltM G)
        by_cases x0 : v (ltM G) = 0
        · rw [if_neg (fun z => z x0)] at hd
          rw [x0]
          exact hd
        · rw [if_pos x0] at hd
          have : v (ltM G) = 1 := by omega
          rw [this]
          exact hd
    · rw [if_neg (fun z => z2 (hok.2 z)), cI_some, if_neg (fun z => z rfl)] at hd
      rw [if_neg z2]
      exact MB_n hd (dpE.rf G) (Or.inl rfl)
  · rw [if_pos (fun z => z1 (k1.1 z))] at hd
    rw [if_neg z1]
    by_cases z3 : sgF T L p 40
    · rw [if_neg (fun z => z (k2.2 z3)), gi] at hd
      rw [if_pos z3]
      by_cases z2 : ok = true
      · rw [if_pos (hok.1 z2), cI_some, if_pos (by omega)] at hd
        rw [if_pos z2]
        have g := hC z2 (up G 97 12 (D + 1)) (p + 1) z3.1 t1 (up_s _ _ _ _)
        have gp := pC (p + 1) z3.1
        unfold clsF
        generalize subC (p + 1) = o at g gp ⊢
        obtain ⟨q5, o⟩ := o
        have g2 : q5 ≤ L := gp.2.1
        cases o with
        | none =>
          obtain ⟨x, G2, u1, u2, u3⟩ := g.2 q5 rfl
          have u1' : Run (d + 1) 203 0 [vR 97, .inl 0, .inl 0, vU, vU] [] (mg (up G 97 12 (D + 1)) (p + 1) (-1)) = some (some (.inl x), mg G2 q5 q5) := u1
          rw [u1', cI_some, m_takesF d _ _ (by omega), cI_some, if_neg (fun z => z rfl)] at hd
          exact MB_n hd (f1.tr u2) (Or.inl rfl)
        | some cv =>
          obtain ⟨c, v⟩ := cv
          obtain ⟨u1, u2⟩ := g.1 q5 c v rfl
          have u1' : Run (d + 1) 203 0 [vR 97, .inl 0, .inl 0, vU, vU] [] (mg (up G 97 12 (D + 1)) (p + 1) (-1)) = some (some (.inl (v (ltM (up G 97 12 (D + 1))))), mg (up G 97 12 (D + 1)) q5 (-1)) := u1
          rw [u1', cI_some, m_takes t1 l9 d g2 (by omega) (by omega)] at hd
          dsimp only
          by_cases z4 : sgF T L (skF T L q5) 41
          · rw [if_pos z4, cI_some, if_pos (by omega), if_pos (u2 _), mg_o _ _ _ (by omega) (by omega), up_s, wI_ok (by omega) (by omega), mg_uf _ _ _ _ (by omega) (by omega), up_twice, show D + 1 - 1 = G 97 12 by omega, up_same, f1.l] at hd
            rw [if_pos z4]
            exact MB_s hd u2
          · rw [if_neg z4, cI_some, if_neg (fun z => z rfl)] at hd
            rw [if_neg z4]
            exact MB_n hd f1 (Or.inl rfl)
      · rw [if_neg (fun z => z2 (hok.2 z)), cI_some, if_neg (fun z => z rfl)] at hd
        rw [if_neg z2]
        exact MB_n hd (dpE.rf G) (Or.inl rfl)
    · rw [if_pos (fun z => z3 (k2.1 z)), q205_0, if_pos rfl] at hd
      rw [if_neg z3]
      have g := hS G p pL t hD
      have gp := pS p pL
      unfold c2F
      generalize sum p = o at g gp ⊢
      obtain ⟨q5, o⟩ := o
      cases o with
      | none =>
        obtain ⟨x, G2, u1, u2⟩ := g.2 q5 rfl
        have u1' : Run d 206 0 [vR 97, vU, vU, vU, vU] [] (mg G p (-1)) = some (some (.inl x), mg G2 q5 q5) := u1
        rw [u1', cI_some, q205_12 (hz0 := rfl) (hz1 := rfl) (hz2 := rfl) (hz3 := rfl) (hz4 := rfl), mg_fl, if_neg (by omega), cI_some, if_pos (Or.inl rfl)] at hd
        exact MB_n hd u2 (Or.inl rfl)
      | some cv =>
        obtain ⟨c, v⟩ := cv
        have u1 := g.1 q5 c v rfl
        have u1' : Run d 206 0 [vR 97, vU, vU, vU, vU] [] (mg G p (-1)) = some (some (.inl (v (ltM G))), mg G q5 (-1)) := u1
        rw [u1', cI_some] at hd
        have g6 := m_cmpT l9 d pS hS (c1 := c) (v1 := v) (z0 := .inl 0) (z1 := .inl 0) (z2 := vU) (z3 := vU) (z4 := vU) gp.2.1 t hD rfl rfl rfl rfl rfl
        show MB G (cmF T L sum q5 c v) _
        generalize cmF T L sum q5 c v = o2 at g6 ⊢
        obtain ⟨q6, o2⟩ := o2
        cases o2 with
        | none =>
          obtain ⟨x, G2, w1, w2, w3⟩ := g6.2 q6 rfl
          have w1' : Run (d + 1) 205 12 [vR 97, .inl 0, .inl 0, vU, vU, vU] [.inl (v (ltM G))] (mg G q5 (-1)) = some (some (.inl x), mg G2 q6 q6) := w1
          rw [w1', cI_some, if_pos w3] at hd
          exact MB_n hd w2 w3
        | some cv2 =>
          obtain ⟨c2, v2⟩ := cv2
          obtain ⟨w1, w2⟩ := g6.1 q6 c2 v2 rfl
          have w1' : Run (d + 1) 205 12 [vR 97, .inl 0, .inl 0, vU, vU, vU] [.inl (v (ltM G))] (mg G q5 (-1)) = some (some (.inl (v2 (ltM G))), mg G q6 (-1)) := w1
          rw [w1', cI_some, if_pos (w2 _)] at hd
          exact MB_s hd w2
