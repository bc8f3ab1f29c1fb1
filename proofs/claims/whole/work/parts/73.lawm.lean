/-! laws: the reference goes through -/
def l6F (p m w h n d : Int) : Nat → Int := fun i => if i = 0 then p else if i = 1 then m else if i = 2 then w else if i = 3 then h else if i = 4 then n else d
def ltM (G : MH) : Nat → Int := l6F (G 101 112) (G 101 109) (G 101 119) (G 101 104) (G 101 110) (G 101 100)
def dpE (G G2 : MH) : Prop := ∀ c j, ¬ (c = 97 ∧ j = 12) → G2 c j = G c j
theorem dpE.rf (G : MH) : dpE G G := fun _ _ _ => rfl
theorem dpE.tr {G G1 G2 : MH} (e : dpE G G1) (f : dpE G1 G2) : dpE G G2 := fun c j q => by rw [f c j q, e c j q]
theorem dp_up (G : MH) (v : Int) : dpE G (up G 97 12 v) := fun c j q => by
  by_cases z : c = 97
  · subst z; exact up_i (fun y => q ⟨rfl, y⟩)
  · rw [up_ne z]
theorem dpE.R {T : Nat → Int} {L : Nat} {G G2 : MH} (e : dpE G G2) (t : RT T L G) : RT T L G2 := t.mv (e _ _ (by omega)) (e _ _ (by omega)) (e _ _ (by omega)) (funext fun j => e _ _ (by omega)) (funext fun j => e _ _ (by omega))
theorem ltM_c {G G2 : MH} (e : G2 101 = G 101) : ltM G2 = ltM G := by unfold ltM; rw [e]
theorem dpE.l {G G2 : MH} (e : dpE G G2) : ltM G2 = ltM G := ltM_c (funext fun j => e _ _ (by omega))
abbrev MO (G : MH) (o : PR) (r : Option (Option MV × MH)) : Prop := (∀ q c v, o = (q, some (c, v)) → r = some (some (.inl (v (ltM G))), mg G q (-1))) ∧ ∀ q, o = (q, none) → ∃ (x : Int) (G2 : MH), r = some (some (.inl x), mg G2 q q) ∧ dpE G G2
def MPp (T : Nat → Int) (L : Nat) (D : Int) (X : MH → Option (Option MV × MH)) (p : Nat → PR) : Prop := ∀ (G : MH) (a : Nat), a ≤ L → RT T L G → G 97 12 = D → MO G (p a) (X (mg G a (-1)))
theorem MO_n {G G2 : MH} {q : Nat} {x : Int} {r : Option (Option MV × MH)} (e : r = some (some (.inl x), mg G2 q q)) (f : dpE G G2) : MO G (q, none) r := ⟨fun q' c v z => (by cases z), fun q' z => by
  have : q = q' := congrArg Prod.fst z
  subst this
  exact ⟨x, G2, e, f⟩⟩
theorem MO_s {G : MH} {q : Nat} {c : List Int} {v : VF} {r : Option (Option MV × MH)} (e : r = some (some (.inl (v (ltM G))), mg G q (-1))) : MO G (q, some (c, v)) r := ⟨fun q' c' v' z => by
  cases z
  exact e, fun q' z => (by cases z)⟩
theorem m_among125 (d : Nat) (h : MH) (x : Int) : Run (d + 5) 201 0 [vR 125, .inl x, vU] [] h = some (some (.inl (bi (¬ fiN 132 6 x 6 0 = -1))), h) := by
  have key : ∀ (r k : Nat), k + r = 6 → Run (d + 5) 201 2 [vR 125, .inl x, .inl (k : Int)] [] h = some (some (.inl (bi (¬ fiN 132 6 x r k = -1))), h) := by
    intro r
    induction r with
    | zero =>
      intro k hk
      have ef : fiN 132 6 x 0 k = -1 := rfl
      rw [q201_2_1, s_len125, cI_some, if_pos (by omega), bi_f (fun z => z ef)]
    | succ r ih =>
      intro k hk
      have ef : fiN 132 6 x (r + 1) k = if chF 132 k = x then (k : Int) else fiN 132 6 x r (k + 1) := rfl
      rw [q201_2_1, s_len125, cI_some, if_neg (by omega), s_at125 d h (by omega), cI_some]
      by_cases q : chF 132 k = x
      · rw [if_neg (fun z => z q), bi_t (by rw [ef, if_pos q]; omega)]
      · rw [if_pos q, wI_ok (by omega) (by omega)]
        have := ih (k + 1) (by omega)
        rw [show ((k + 1 : Nat) : Int) = (k : Int) + 1 by omega] at this
        rw [this]
        exact bi_c2 (by rw [ef, if_neg q])
  rw [q201_0_1]
  exact key 6 0 rfl
theorem m_among126 (d : Nat) (h : MH) (x : Int) : Run (d + 5) 201 0 [vR 126, .inl x, vU] [] h = some (some (.inl (bi (x = 121))), h) := by
  have c0 : chF 133 0 = 121 := by decide +kernel
  have a0 : Run (d + 4) 11 0 [vR 126, .inl 0] [] h = some (some (.inl (chF 133 0)), h) := s_at126 d h (k := 0) (by omega)
  rw [q201_0, q201_2, s_len126, cI_some, if_neg (by omega), a0, cI_some, c0]
  by_cases q : x = 121
  · rw [if_neg (fun z => z q.symm), bi_t q]
  · rw [if_pos (fun z => q z.symm), wI_ok (by omega) (by omega), q201_2, s_len126, cI_some, if_pos (by omega), bi_f q]
theorem m_goesIn (d : Nat) {G : MH} {p : Nat} {D : Int} (hp : p ≤ 960) (hD : G 97 12 = D) (D0 : 0 ≤ D) (D6 : D ≤ 6) : Run (d + 1) 209 0 [vR 97] [] (mg G p (-1)) = if D < 6 then some (some (.inl 1), mg (up G 97 12 (D + 1)) (p + 1) (-1)) else some (some (.inl 0), mg G p p) := by
  rw [q209_0, mg_o G p (-1) (by omega) (by omega), hD]
  by_cases q : D < 6
  · rw [if_pos (by omega), if_pos q, wI_ok (by omega) (by omega), mg_uf _ _ _ _ (by omega) (by omega), mg_nx _ _ hp]
  · rw [if_neg (by omega), if_neg q, m_fails, cI_some, if_pos rfl, if_pos (Or.inl rfl)]
theorem m_takes {T : Nat → Int} {L : Nat} {G : MH} (t : RT T L G) (l9 : L ≤ 240) (d : Nat) {a : Nat} (ha : a ≤ L) {s : Int} (s0 : 0 ≤ s) (s1 : s ≤ 127) : Run (d + 1) 202 0 [vR 97, .inl s] [] (mg G a (-1)) = if sgF T L (skF T L a) s then some (some (.inl 1), mg G (skF T L a + 1) (-1)) else some (some (.inl 0), mg G (skF T L a) (skF T L a)) := by
  have l2 := sk_L (T := T) ha
  rw [q202_0, mg_fl, if_neg (fun z => z rfl), m_look t _ _ ha, cI_some]
  by_cases q : sgF T L (skF T L a) s
  · rw [if_pos ((lk_sg t.2 s0 s1).2 q), if_pos q, mg_nx _ _ (by omega)]
  · rw [if_neg (fun z => q ((lk_sg t.2 s0 s1).1 z)), if_neg q, m_fails, cI_some, if_pos rfl, if_pos (Or.inl rfl)]
theorem m_takesF (d : Nat) (G : MH) (a : Nat) {f : Int} (hf : ¬ f = -1) (s : Int) : Run (d + 1) 202 0 [vR 97, .inl s] [] (mg G a f) = some (some (.inl 0), mg G a f) := by
  rw [q202_0, mg_fl, if_pos hf, m_fails, cI_some, if_neg hf, if_pos (Or.inl rfl)]
theorem fi_lt (G : MH) {x : Int} (h : ¬ fiN 132 6 x 6 0 = -1) : ltM G (fiN 132 6 x 6 0).toNat = G 101 x.toNat := by
  rw [fi132] at h ⊢
  by_cases q0 : x = 112
  · rw [if_pos q0, q0]; rfl
  rw [if_neg q0] at h ⊢
  by_cases q1 : x = 109
  · rw [if_pos q1, q1]; rfl
  rw [if_neg q1] at h ⊢
  by_cases q2 : x = 119
  · rw [if_pos q2, q2]; rfl
  rw [if_neg q2] at h ⊢
  by_cases q3 : x = 104
  · rw [if_pos q3, q3]; rfl
  rw [if_neg q3] at h ⊢
  by_cases q4 : x = 110
  · rw [if_pos q4, q4]; rfl
  rw [if_neg q4] at h ⊢
  by_cases q5 : x = 100
  · rw [if_pos q5, q5]; rfl
  rw [if_neg q5] at h
  exact absurd rfl h
theorem m_numL {T : Nat → Int} {L : Nat} {G : MH} (t : RT T L G) (l9 : L ≤ 240) (d : Nat) {z0 : MV} (y0 : cat z0 = 1) : ∀ (r j p : Nat) (v : Int), j + r = 4 → p ≤ L → 0 ≤ v → v < 10 ^ j → Run (d + 1) 208 90 [vR 97, z0, .inl v, .inl (j : Int)] [] (mg G p (-1)) = match nmF T L r p v true with
    | (q, none) => some (some (.inl 0), mg G q q)
    | (q, some w) => some (some (.inl w), mg G q (-1)) := by
  have p4 : ∀ j : Nat, j ≤ 4 → (10 : Int) ^ j ≤ 10000 := by
    intro j hj
    have := Nat.pow_le_pow_right (n := 10) (by omega) hj
    have e : (10 : Int) ^ j ≤ 10 ^ 4 := by exact_mod_cast this
    omega
  intro r
  induction r with
  | zero =>
    intro j p v hj hp v0 v1
    unfold nmF
    rw [q208_90 (hz0 := y0), m_isDigit t d _ hp, cI_some]
    by_cases q : dgP T L p 9
    · rw [bi_t q, if_neg (by omega), mg_fl, if_neg (fun z => z rfl), if_neg (fun z => z (by omega)), m_fails, cI_some, if_pos rfl, if_pos q]
    · rw [bi_f q, if_pos rfl, if_neg q, if_pos rfl]
  | succ r ih =>
    intro j p v hj hp v0 v1
    have pj := p4 j (by omega)
    have pj1 := p4 (j + 1) (by omega)
    unfold nmF
    rw [q208_90 (hz0 := y0), m_isDigit t d _ hp, cI_some]
    by_cases q : dgP T L p 9
    · obtain ⟨q0, q1, q2⟩ := id q
      rw [bi_t q, if_neg (by omega), mg_fl, if_neg (fun z => z rfl), if_pos (by omega), if_pos q]
      have e : (10 : Int) ^ (j + 1) = 10 * 10 ^ j := by rw [Int.pow_succ]; omega
      have ii := ih (j + 1) (p + 1) (10 * v + (T p - 48)) (by omega) (by omega) (by omega) (by rw [e]; omega)
      obtain ⟨⟨c, bg, h1, h2, h3, h4, h5⟩, h6⟩ := id t
      have g2 := (mg_o G p (-1) (j := 5) (by omega) (by omega)).trans h2
      have g3 := (mg_o G p (-1) (j := 8) (by omega) (by omega)).trans h3
      have e5 := h5 p q0
      have val : ∀ y : Int, y = T p → wI (wI (wI (10 * v) + y) - 48) = 10 * v + (T p - 48) := by
        intro y hy
        rw [hy, wI_ok (x := 10 * v) (by omega) (by omega), wI_ok (x := 10 * v + T p) (by omega) (by omega), wI_ok (by omega) (by omega)]
        omega
      rcases h1 with ⟨rfl, h1⟩ | ⟨rfl, h1⟩
      · have g5 : mg G p (-1) 98 (bg + p) = T p := by rw [mg_ne G p (-1) (by omega)]; exact e5
        rw [g2, g3, if_pos (by omega), mg_nx _ _ (by omega), mg_at, wI_ok (x := (bg : Int) + p) (by omega) (by omega), if_pos (by omega), show ((bg : Int) + p).toNat = bg + p by omega, val _ g5, wI_ok (by omega) (by omega)]
        exact ii
      · have g5 : mg G p (-1) 99 (bg + p) = T p := by rw [mg_ne G p (-1) (by omega)]; exact e5
        rw [g2, g3, if_neg (by omega), if_pos (by omega), mg_nx _ _ (by omega), mg_at, wI_ok (x := (bg : Int) + p) (by omega) (by omega), if_pos (by omega), show ((bg : Int) + p).toNat = bg + p by omega, val _ g5, wI_ok (by omega) (by omega)]
        exact ii
    · rw [bi_f q, if_pos rfl, if_neg q, if_pos rfl]
theorem m_atom {T : Nat → Int} {L : Nat} (l9 : L ≤ 240) (d : Nat) {D : Int} (D0 : 0 ≤ D) (D6 : D ≤ 6) {ok : Bool} (hok : ok = true ↔ D < 6) {sub : Nat → PR} (hp : PL L sub) (hs : ok = true → MPp T L (D + 1) (fun g => Run (d + 5) 206 0 [vR 97, vU, vU, vU, vU] [] g) sub) :
    MPp T L D (fun g => Run (d + 6) 208 0 [vR 97, vU, vU, vU] [] g) (atF T L ok sub) := by
  intro G a ha t hD
  obtain ⟨p, hp0⟩ : ∃ p, p = skF T L a := ⟨_, rfl⟩
  have pL : p ≤ L := by rw [hp0]; exact sk_L ha
  have hd := q208_0 (d + 5) (mg G a (-1))
  rw [m_look t _ _ ha, cI_some, ← hp0, m_among125 d, cI_some] at hd
  have lt : ltF T L p = fiN 132 6 (lkG T L p) 6 0 := rfl
  rw [← lt] at hd
  unfold atF
  rw [← hp0]
  by_cases z1 : sgF T L p 91
  · have e91 := (lk_sg t.2 (by omega) (by omega)).2 z1
    have l1 : ltF T L p = -1 := by rw [lt, e91]; decide +kernel
    rw [bi_f (fun z => z l1), if_pos rfl, if_neg (fun z => z e91), m_goesIn (d + 4) (by omega) hD D0 D6] at hd
    rw [if_pos z1]
    by_cases z2 : ok = true
    · rw [if_pos (hok.1 z2), cI_some, if_pos (by omega)] at hd
      rw [if_pos z2]
      have f1 := dp_up G (D + 1)
      have t1 := f1.R t
      have g := hs z2 (up G 97 12 (D + 1)) (p + 1) z1.1 t1 (up_s _ _ _ _)
      have gp := hp (p + 1) z1.1
      unfold clsF
      generalize sub (p + 1) = o at g gp ⊢
      obtain ⟨q, o⟩ := o
      have qL : q ≤ L := gp.2.1
      cases o with
      | none =>
        obtain ⟨x, G2, u1, u2⟩ := g.2 q rfl
        have u1' : Run (d + 5) 206 0 [vR 97, vU, vU, vU, vU] [] (mg (up G 97 12 (D + 1)) (p + 1) (-1)) = some (some (.inl x), mg G2 q q) := u1
        rw [u1', cI_some, m_takesF (d + 4) _ _ (by omega), cI_some, if_neg (fun z => z rfl)] at hd
        exact MO_n hd (f1.tr u2)
      | some cv =>
        obtain ⟨c, v⟩ := cv
        have u1 := g.1 q c v rfl
        have u1' : Run (d + 5) 206 0 [vR 97, vU, vU, vU, vU] [] (mg (up G 97 12 (D + 1)) (p + 1) (-1)) = some (some (.inl (v (ltM (up G 97 12 (D + 1))))), mg (up G 97 12 (D + 1)) q (-1)) := u1
        rw [u1', cI_some, m_takes t1 l9 (d + 4) qL (by omega) (by omega)] at hd
        dsimp only
        by_cases z3 : sgF T L (skF T L q) 93
        · rw [if_pos z3, cI_some, if_pos (by omega), mg_o _ _ _ (by omega) (by omega), up_s, wI_ok (by omega) (by omega), mg_uf _ _ _ _ (by omega) (by omega), up_twice, show D + 1 - 1 = G 97 12 by omega, up_same, f1.l] at hd
          rw [if_pos z3]
          exact MO_s hd
        · rw [if_neg z3, cI_some, if_neg (fun z => z rfl)] at hd
          rw [if_neg z3]
          exact MO_n hd f1
    · rw [if_neg (fun z => z2 (hok.2 z)), cI_some, if_neg (fun z => z rfl)] at hd
      rw [if_neg z2]
      exact MO_n hd (dpE.rf G)
  · rw [if_neg z1]
    by_cases z2 : ltF T L p = -1
    · rw [bi_f (fun z => z z2), if_pos rfl, if_pos (fun z => z1 ((lk_sg t.2 (by omega) (by omega)).1 z)), m_isDigit t _ _ pL, cI_some] at hd
      rw [if_neg (fun z => z z2)]
      by_cases z3 : dgP T L p 9
      · have nm := m_numL t l9 (d + 5) (z0 := .inl (lkG T L p)) rfl 4 0 p 0 (by omega) pL (by omega) (by simp)
        have nm' : Run (d + 5 + 1) 208 90 [vR 97, .inl (lkG T L p), .inl 0, .inl 0] [] (mg G p (-1)) = _ := nm
        have en : nmF T L 4 p 0 false = nmF T L 4 p 0 true := by
          unfold nmF
          rw [if_pos z3, if_pos z3]
        rw [bi_t z3, if_pos (by omega), nm', ← en] at hd
        generalize nmF T L 4 p 0 false = o at hd ⊢
        obtain ⟨q, o⟩ := o
        unfold nuF
        cases o with
        | none => exact MO_n hd (dpE.rf G)
        | some v => exact MO_s (v := fun _ => v) hd
      · rw [bi_f z3, if_neg (fun z => z rfl), m_fails, cI_some, if_pos rfl, q208_90 (hz0 := rfl), m_isDigit t _ _ pL, cI_some, bi_f z3, if_pos rfl] at hd
        have en : nmF T L 4 p 0 false = (p, none) := by
          unfold nmF
          rw [if_neg z3]
          rfl
        rw [en]
        exact MO_n hd (dpE.rf G)
    · have fb := fi_b (lkG T L p)
      rw [← lt] at fb
      rw [bi_t z2, if_neg (by omega), if_pos (by omega), mg_nx _ _ (by omega), mg_ne _ _ _ (by omega)] at hd
      rw [if_pos z2]
      have ev : G 101 (lkG T L p).toNat = (fun lt : Nat → Int => lt (ltF T L p).toNat) (ltM G) := by
        show _ = ltM G (ltF T L p).toNat
        rw [lt, fi_lt G (by rw [← lt]; exact z2)]
      rw [ev] at hd
      exact MO_s hd
theorem m_within (d : Nat) (h : MH) (x : Int) : Run d 210 0 [.inr (.inl x), vU] [] h = some (some (.inl (cM x)), h) := q210_0 d x h
def zOK (z1 z2 z3 : MV) : Prop := cat z1 = 1 ∧ cat z3 = 1 ∧ (cat z2 = 1 ∨ ∃ x, z2 = .inr (.inl x))
theorem cmpL_z (x : Int) : cmpL x 0 = 0 ↔ x = 0 := by
  unfold cmpL
  split <;> (try split) <;> omega
theorem m_termL {T : Nat → Int} {L : Nat} {G : MH} (t : RT T L G) (l9 : L ≤ 240) (d : Nat) {a : Nat} (ha : a ≤ L) {x0 : Int} {z1 z2 z3 : MV} (zz : zOK z1 z2 z3) : Run (d + 1) 207 5 [vR 97, .inl x0, z1, z2, z3] [] (mg G a (-1)) = if jnF T L (skF T L a) = 4 ∨ jnF T L (skF T L a) = 5 then cI (Run d 208 0 [vR 97, vU, vU, vU] [] (mg G (skF T L a + 1) (-1))) (fun w h1 => Run (d + 1) 207 5 [vR 97, .inl (jvF (jnF T L (skF T L a)) x0 w), .inl (bi (jnF T L (skF T L a) = 4)), .inr (.inl w), vU] [] h1) else some (some (.inl x0), mg G (skF T L a) (-1)) := by
  obtain ⟨y1, y3, y2⟩ := zz
  obtain ⟨p, hp⟩ : ∃ p, p = skF T L a := ⟨_, rfl⟩
  have pL : p ≤ L := by rw [hp]; exact sk_L ha
  have ps : skF T L p = p := by rw [hp]; exact sk_sk ha
  have lp := m_look t d (-1) pL
  rw [ps] at lp
  have k1 := lk_sg (p := p) t.2 (s := 42) (by omega) (by omega)
  have k2 := lk_sg (p := p) t.2 (s := 47) (by omega) (by omega)
  -- behind the sign
  have s45 : ∀ y : Int, Run (d + 1) 207 45 [vR 97, .inl x0, z1, z2, z3] [.inl y] (mg G p (-1)) = cI (Run d 208 0 [vR 97, vU, vU, vU] [] (mg G (p + 1) (-1))) (fun w h1 => Run (d + 1) 207 5 [vR 97, .inl (jvF (if y = 0 then 5 else 4) x0 w), .inl y, .inr (.inl w), vU] [] h1) := by
    intro y
    have body : ∀ (w : Int) (h1 : MH), (if y = 0 then (if ¬ (cmpL w 0) = 0 then (if w = 0 then none else (cI (Run d 210 0 [.inr (.inl (wL (x0.tdiv w))), vU] [] h1) fun a6_ h5_ => Run (d + 1) 207 5 [vR 97, .inl a6_, .inl y, .inr (.inl w), vU] [] h5_)) else (cI (Run d 210 0 [.inr (.inl 0), vU] [] h1) fun a8_ h7_ => Run (d + 1) 207 5 [vR 97, .inl a8_, .inl y, .inr (.inl w), vU] [] h7_)) else (cI (Run d 210 0 [.inr (.inl (wL (x0 * w))), vU] [] h1) fun a10_ h9_ => Run (d + 1) 207 5 [vR 97, .inl a10_, .inl y, .inr (.inl w), vU] [] h9_)) = Run (d + 1) 207 5 [vR 97, .inl (jvF (if y = 0 then 5 else 4) x0 w), .inl y, .inr (.inl w), vU] [] h1 := by
      intro w h1
      by_cases q : y = 0
      · rw [if_pos q, if_pos q]
        by_cases q2 : w = 0
        · rw [if_neg (fun z => z ((cmpL_z w).2 q2)), m_within, cI_some]
          unfold jvF
          rw [if_neg (by omega), if_neg (by omega), if_neg (by omega), if_pos q2]
        · rw [if_pos (fun z => q2 ((cmpL_z w).1 z)), if_neg q2, m_within, cI_some]
          unfold jvF
          rw [if_neg (by omega), if_neg (by omega), if_neg (by omega), if_neg q2]
      · rw [if_neg q, if_neg q, m_within, cI_some]
        unfold jvF
        rw [if_neg (by omega), if_neg (by omega), if_pos rfl]
    rcases y2 with y2 | ⟨x, rfl⟩
    · rw [q207_45 (hz1 := y1) (hz2 := y2) (hz3 := y3), mg_nx _ _ (by omega)]
      congr 1
      funext w h1
      exact body w h1
    · rw [q207_45_1 (hz1 := y1) (hz3 := y3), mg_nx _ _ (by omega)]
      congr 1
      funext w h1
      exact body w h1
  have s5 : Run (d + 1) 207 5 [vR 97, .inl x0, z1, z2, z3] [] (mg G a (-1)) = if lkG T L p = 42 then Run (d + 1) 207 45 [vR 97, .inl x0, z1, z2, z3] [.inl 1] (mg G p (-1)) else if ¬ lkG T L p = 47 then some (some (.inl x0), mg G p (-1)) else Run (d + 1) 207 45 [vR 97, .inl x0, z1, z2, z3] [.inl 0] (mg G p (-1)) := by
    rcases y2 with y2 | ⟨x, rfl⟩
    · rw [q207_5 (hz1 := y1) (hz2 := y2) (hz3 := y3), mg_fl, if_neg (fun z => z rfl), m_look t d (-1) ha, cI_some, ← hp, lp, cI_some, cI_some, lp, cI_some]
      by_cases q : lkG T L p = 42
      · rw [if_pos q, if_pos q, if_neg (fun z => z q)]
      · rw [if_neg q, if_neg q, if_pos q]
    · rw [q207_5_1 (hz1 := y1) (hz3 := y3), mg_fl, if_neg (fun z => z rfl), m_look t d (-1) ha, cI_some, ← hp, lp, cI_some, cI_some, lp, cI_some]
      by_cases q : lkG T L p = 42
      · rw [if_pos q, if_pos q, if_neg (fun z => z q)]
      · rw [if_neg q, if_neg q, if_pos q]
  rw [s5, ← hp]
  by_cases q1 : sgF T L p 42
  · have ej : jnF T L p = 4 := by unfold jnF; rw [if_pos q1]
    rw [if_pos (k1.2 q1), if_pos (Or.inl ej), s45, ej, if_neg (by omega), bi_t rfl]
  · rw [if_neg (fun z => q1 (k1.1 z))]
    by_cases q2 : sgF T L p 47
    · have n2 : ¬ sgF T L p 43 := fun z => by have := z.2; have := q2.2; omega
      have n3 : ¬ sgF T L p 45 := fun z => by have := z.2; have := q2.2; omega
      have ej : jnF T L p = 5 := by unfold jnF; rw [if_neg q1, if_neg n2, if_neg n3, if_pos q2]
      rw [if_neg (fun z => z (k2.2 q2)), if_pos (Or.inr ej), s45, ej, if_pos rfl, bi_f (by omega)]
    · have ej : ¬ (jnF T L p = 4 ∨ jnF T L p = 5) := by
        unfold jnF
        rw [if_neg q1]
        by_cases q3 : sgF T L p 43
        · rw [if_pos q3]; omega
        · rw [if_neg q3]
          by_cases q4 : sgF T L p 45
          · rw [if_pos q4]; omega
          · rw [if_neg q4, if_neg q2]; omega
      rw [if_pos (fun z => q2 (k2.1 z)), if_neg ej]
theorem m_sumS {T : Nat → Int} {L : Nat} {G : MH} (t : RT T L G) (l9 : L ≤ 240) (d : Nat) {a : Nat} (ha : a ≤ L) {x0 : Int} {z1 z2 z3 : MV} (zz : zOK z1 z2 z3) : Run (d + 1) 206 5 [vR 97, .inl x0, z1, z2, z3] [] (mg G a (-1)) = if jnF T L (skF T L a) = 2 ∨ jnF T L (skF T L a) = 3 then cI (Run d 207 0 [vR 97, vU, vU, vU, vU] [] (mg G (skF T L a + 1) (-1))) (fun w h1 => Run (d + 1) 206 5 [vR 97, .inl (jvF (jnF T L (skF T L a)) x0 w), .inl (bi (jnF T L (skF T L a) = 2)), .inr (.inl w), vU] [] h1) else some (some (.inl x0), mg G (skF T L a) (-1)) := by
  obtain ⟨y1, y3, y2⟩ := zz
  obtain ⟨p, hp⟩ : ∃ p, p = skF T L a := ⟨_, rfl⟩
  have pL : p ≤ L := by rw [hp]; exact sk_L ha
  have ps : skF T L p = p := by rw [hp]; exact sk_sk ha
  have lp := m_look t d (-1) pL
  rw [ps] at lp
  have k1 := lk_sg (p := p) t.2 (s := 43) (by omega) (by omega)
  have k2 := lk_sg (p := p) t.2 (s := 45) (by omega) (by omega)
  have s45 : ∀ y : Int, Run (d + 1) 206 45 [vR 97, .inl x0, z1, z2, z3] [.inl y] (mg G p (-1)) = cI (Run d 207 0 [vR 97, vU, vU, vU, vU] [] (mg G (p + 1) (-1))) (fun w h1 => Run (d + 1) 206 5 [vR 97, .inl (jvF (if y = 0 then 3 else 2) x0 w), .inl y, .inr (.inl w), vU] [] h1) := by
    intro y
    have body : ∀ (w : Int) (h1 : MH), (if y = 0 then (cI (Run d 210 0 [.inr (.inl (wL (x0 - w))), vU] [] h1) fun a5_ h4_ => Run (d + 1) 206 5 [vR 97, .inl a5_, .inl y, .inr (.inl w), vU] [] h4_) else (cI (Run d 210 0 [.inr (.inl (wL (x0 + w))), vU] [] h1) fun a7_ h6_ => Run (d + 1) 206 5 [vR 97, .inl a7_, .inl y, .inr (.inl w), vU] [] h6_)) = Run (d + 1) 206 5 [vR 97, .inl (jvF (if y = 0 then 3 else 2) x0 w), .inl y, .inr (.inl w), vU] [] h1 := by
      intro w h1
      by_cases q : y = 0
      · rw [if_pos q, if_pos q, m_within, cI_some]
        unfold jvF
        rw [if_neg (by omega), if_pos rfl]
      · rw [if_neg q, if_neg q, m_within, cI_some]
        unfold jvF
        rw [if_pos rfl]
    rcases y2 with y2 | ⟨x, rfl⟩
    · rw [q206_45 (hz1 := y1) (hz2 := y2) (hz3 := y3), mg_nx _ _ (by omega)]
      congr 1
      funext w h1
      exact body w h1
    · rw [q206_45_1 (hz1 := y1) (hz3 := y3), mg_nx _ _ (by omega)]
      congr 1
      funext w h1
      exact body w h1
  have s5 : Run (d + 1) 206 5 [vR 97, .inl x0, z1, z2, z3] [] (mg G a (-1)) = if lkG T L p = 43 then Run (d + 1) 206 45 [vR 97, .inl x0, z1, z2, z3] [.inl 1] (mg G p (-1)) else if ¬ lkG T L p = 45 then some (some (.inl x0), mg G p (-1)) else Run (d + 1) 206 45 [vR 97, .inl x0, z1, z2, z3] [.inl 0] (mg G p (-1)) := by
    rcases y2 with y2 | ⟨x, rfl⟩
    · rw [q206_5 (hz1 := y1) (hz2 := y2) (hz3 := y3), mg_fl, if_neg (fun z => z rfl), m_look t d (-1) ha, cI_some, ← hp, lp, cI_some, cI_some, lp, cI_some]
      by_cases q : lkG T L p = 43
      · rw [if_pos q, if_pos q, if_neg (fun z => z q)]
      · rw [if_neg q, if_neg q, if_pos q]
    · rw [q206_5_1 (hz1 := y1) (hz3 := y3), mg_fl, if_neg (fun z => z rfl), m_look t d (-1) ha, cI_some, ← hp, lp, cI_some, cI_some, lp, cI_some]
      by_cases q : lkG T L p = 43
      · rw [if_pos q, if_pos q, if_neg (fun z => z q)]
      · rw [if_neg q, if_neg q, if_pos q]
  rw [s5, ← hp]
  by_cases q1 : sgF T L p 43
  · have n2 : ¬ sgF T L p 42 := fun z => by have := z.2; have := q1.2; omega
    have ej : jnF T L p = 2 := by unfold jnF; rw [if_neg n2, if_pos q1]
    rw [if_pos (k1.2 q1), if_pos (Or.inl ej), s45, ej, if_neg (by omega), bi_t rfl]
  · rw [if_neg (fun z => q1 (k1.1 z))]
    by_cases q2 : sgF T L p 45
    · have n2 : ¬ sgF T L p 42 := fun z => by have := z.2; have := q2.2; omega
      have ej : jnF T L p = 3 := by unfold jnF; rw [if_neg n2, if_neg q1, if_pos q2]
      rw [if_neg (fun z => z (k2.2 q2)), if_pos (Or.inr ej), s45, ej, if_pos rfl, bi_f (by omega)]
    · have ej : ¬ (jnF T L p = 2 ∨ jnF T L p = 3) := by
        unfold jnF
        by_cases q3 : sgF T L p 42
        · rw [if_pos q3]; omega
        · rw [if_neg q3, if_neg q1, if_neg q2]
          by_cases q4 : sgF T L p 47
          · rw [if_pos q4]; omega
          · rw [if_neg q4]; omega
      rw [if_pos (fun z => q2 (k2.1 z)), if_neg ej]
theorem m_termF (d : Nat) (G : MH) (a : Nat) {f : Int} (hf : ¬ f = -1) (x0 : Int) {z1 z2 z3 : MV} (zz : zOK z1 z2 z3) : Run (d + 1) 207 5 [vR 97, .inl x0, z1, z2, z3] [] (mg G a f) = some (some (.inl x0), mg G a f) := by
  obtain ⟨y1, y3, y2⟩ := zz
  rcases y2 with y2 | ⟨x, rfl⟩
  · rw [q207_5 (hz1 := y1) (hz2 := y2) (hz3 := y3), mg_fl, if_pos hf]
  · rw [q207_5_1 (hz1 := y1) (hz3 := y3), mg_fl, if_pos hf]
theorem m_sumF (d : Nat) (G : MH) (a : Nat) {f : Int} (hf : ¬ f = -1) (x0 : Int) {z1 z2 z3 : MV} (zz : zOK z1 z2 z3) : Run (d + 1) 206 5 [vR 97, .inl x0, z1, z2, z3] [] (mg G a f) = some (some (.inl x0), mg G a f) := by
  obtain ⟨y1, y3, y2⟩ := zz
  rcases y2 with y2 | ⟨x, rfl⟩
  · rw [q206_5 (hz1 := y1) (hz2 := y2) (hz3 := y3), mg_fl, if_pos hf]
  · rw [q206_5_1 (hz1 := y1) (hz3 := y3), mg_fl, if_pos hf]
