/-! laws: the reference's conditions and clauses -/
abbrev ovF (w : Bool) (vs vt : VF) : VF := if w = true then fun lt => iOr (vs lt) (vt lt) else vt
def orV (x t : Int) : Int := if ¬ x = 0 then 1 else if t = 0 then 0 else 1
theorem orV_01 (x t : Int) : orV x t = 0 ∨ orV x t = 1 := by
  unfold orV
  split
  · exact Or.inr rfl
  split
  · exact Or.inl rfl
  · exact Or.inr rfl
def anV (x t : Int) : Int := if x = 0 then 0 else if t = 0 then 0 else 1
theorem anV_01 (x t : Int) : anV x t = 0 ∨ anV x t = 1 := by
  unfold anV
  split
  · exact Or.inl rfl
  split
  · exact Or.inl rfl
  · exact Or.inr rfl
theorem or_01 {x t : Int} (hx : x = 0 ∨ x = 1) (ht : t = 0 ∨ t = 1) : iOr x t = orV x t := by
  rcases hx with rfl | rfl <;> rcases ht with rfl | rfl <;> decide +kernel
theorem an_01 {x t : Int} (hx : x = 0 ∨ x = 1) (ht : t = 0 ∨ t = 1) : iAnd x t = anV x t := by
  rcases hx with rfl | rfl <;> rcases ht with rfl | rfl <;> decide +kernel
/-- what follows a part -/
noncomputable def KC (d : Nat) (z0 z1 : MV) (w : Bool) (x : Int) : Int → MH → Option (Option MV × MH) := fun t h => if w = true then Run (d + 2) 203 7 [vR 97, z0, z1, .inl (orV x t), .inl t] [] h else Run (d + 2) 203 7 [vR 97, z0, z1, .inl t, vU] [] h
theorem KC_F (d : Nat) {z0 z1 : MV} (y0 : cat z0 = 1) (y1 : cat z1 = 1) (w : Bool) (x : Int) {t : Int} (ht : t = 0 ∨ t = 1) (G : MH) (q : Nat) : ∃ y, KC d z0 z1 w x t (mg G q q) = some (some (.inl y), mg G q q) ∧ (y = 0 ∨ y = 1) := by
  unfold KC
  by_cases z : w = true
  · rw [if_pos z, q203_7 (hz0 := y0) (hz1 := y1) (hz3 := rfl), mg_fl, if_pos (by omega), if_pos (orV_01 x t)]
    exact ⟨_, rfl, orV_01 x t⟩
  · rw [if_neg z, q203_7 (hz0 := y0) (hz1 := y1) (hz3 := rfl), mg_fl, if_pos (by omega), if_pos ht]
    exact ⟨_, rfl, ht⟩
theorem KC_S {T : Nat → Int} {L : Nat} {G : MH} (t : RT T L G) (l9 : L ≤ 240) (d : Nat) {a : Nat} (ha : a ≤ L) {z0 z1 : MV} (y0 : cat z0 = 1) (y1 : cat z1 = 1) (w : Bool) {vs vt : VF} (bs : ∀ lt, vs lt = 0 ∨ vs lt = 1) (bt : ∀ lt, vt lt = 0 ∨ vt lt = 1) : KC d z0 z1 w (vs (ltM G)) (vt (ltM G)) (mg G a (-1)) = if sgF T L (skF T L a) 124 then cI (Run (d + 1) 204 0 [vR 97, .inl 0, .inl 0, vU, vU] [] (mg G (skF T L a + 1) (-1))) (KC d z0 z1 true (ovF w vs vt (ltM G))) else some (some (.inl (ovF w vs vt (ltM G))), mg G (skF T L a) (-1)) := by
  have l2 := sk_L (T := T) ha
  have k1 := lk_sg (p := skF T L a) t.2 (s := 124) (by omega) (by omega)
  have g : ∀ (x2 : Int) (z3 : MV), cat z3 = 1 → x2 = ovF w vs vt (ltM G) → (x2 = 0 ∨ x2 = 1) → Run (d + 2) 203 7 [vR 97, z0, z1, .inl x2, z3] [] (mg G a (-1)) = if sgF T L (skF T L a) 124 then cI (Run (d + 1) 204 0 [vR 97, .inl 0, .inl 0, vU, vU] [] (mg G (skF T L a + 1) (-1))) (KC d z0 z1 true (ovF w vs vt (ltM G))) else some (some (.inl (ovF w vs vt (ltM G))), mg G (skF T L a) (-1)) := by
    intro x2 z3 y3 ex b
    rw [q203_7 (hz0 := y0) (hz1 := y1) (hz3 := y3), mg_fl, if_neg (fun z => z rfl), m_look t _ _ ha, cI_some]
    by_cases q : sgF T L (skF T L a) 124
    · rw [if_neg (fun z => z (k1.2 q)), if_pos q, mg_nx _ _ (by omega), ← ex]
      congr 1
      funext a6 h5
      unfold KC orV
      rw [if_pos rfl]
      by_cases e1 : x2 = 0
      · rw [if_neg (c := ¬ x2 = 0) (fun z => z e1), if_neg (c := ¬ x2 = 0) (fun z => z e1)]
        by_cases e2 : a6 = 0
        · rw [if_pos e2, if_pos e2]
        · rw [if_neg e2, if_neg e2]
      · rw [if_pos (c := ¬ x2 = 0) e1, if_pos (c := ¬ x2 = 0) e1]
    · rw [if_pos (fun z => q (k1.1 z)), if_neg q, if_pos b, ← ex]
  unfold KC
  by_cases z : w = true
  · rw [if_pos z]
    refine g _ _ rfl ?_ (orV_01 _ _)
    unfold ovF
    rw [if_pos z]
    exact (or_01 (bs _) (bt _)).symm
  · rw [if_neg z]
    refine g _ _ rfl ?_ (bt _)
    unfold ovF
    rw [if_neg z]
theorem m_partL {T : Nat → Int} {L : Nat} {G : MH} (t : RT T L G) (l9 : L ≤ 240) (d : Nat) {a : Nat} (ha : a ≤ L) {z0 z1 z3 : MV} (y0 : cat z0 = 1) (y1 : cat z1 = 1) (y3 : cat z3 = 1) {x2 : Int} (b : x2 = 0 ∨ x2 = 1) : Run (d + 1) 204 18 [vR 97, z0, z1, .inl x2, z3] [] (mg G a (-1)) = if sgF T L (skF T L a) 38 then cI (Run d 212 0 [vR 97, vU, vU] [] (mg G (skF T L a + 1) (-1))) (fun w h => Run (d + 1) 204 18 [vR 97, z0, z1, .inl (anV x2 w), .inl w] [] h) else some (some (.inl x2), mg G (skF T L a) (-1)) := by
  have l2 := sk_L (T := T) ha
  have k1 := lk_sg (p := skF T L a) t.2 (s := 38) (by omega) (by omega)
  rw [q204_18 (hz0 := y0) (hz1 := y1) (hz3 := y3), mg_fl, if_neg (fun z => z rfl), m_look t _ _ ha, cI_some]
  by_cases q : sgF T L (skF T L a) 38
  · rw [if_neg (fun z => z (k1.2 q)), if_pos q, mg_nx _ _ (by omega)]
    congr 1
    funext a6 h5
    unfold anV
    by_cases e1 : x2 = 0
    · rw [if_pos e1, if_pos e1]
    · rw [if_neg e1, if_neg e1]
      by_cases e2 : a6 = 0
      · rw [if_pos e2, if_pos e2]
      · rw [if_neg e2, if_neg e2]
  · rw [if_pos (fun z => q (k1.1 z)), if_neg q, if_pos b]
theorem m_partF (d : Nat) (G : MH) (q : Nat) {z0 z1 z3 : MV} (y0 : cat z0 = 1) (y1 : cat z1 = 1) (y3 : cat z3 = 1) {x2 : Int} (b : x2 = 0 ∨ x2 = 1) : Run (d + 1) 204 18 [vR 97, z0, z1, .inl x2, z3] [] (mg G q q) = some (some (.inl x2), mg G q q) := by
  rw [q204_18 (hz0 := y0) (hz1 := y1) (hz3 := y3), mg_fl, if_pos (by omega), if_pos b]
theorem ov_01 {w : Bool} {vs vt : VF} (bs : ∀ lt, vs lt = 0 ∨ vs lt = 1) (bt : ∀ lt, vt lt = 0 ∨ vt lt = 1) : ∀ lt, ovF w vs vt lt = 0 ∨ ovF w vs vt lt = 1 := by
  intro lt
  unfold ovF
  by_cases z : w = true
  · rw [if_pos z]
    show iOr (vs lt) (vt lt) = 0 ∨ iOr (vs lt) (vt lt) = 1
    rw [or_01 (bs lt) (bt lt)]
    exact orV_01 _ _
  · rw [if_neg z]; exact bt lt
theorem m_condLoop {T : Nat → Int} {L : Nat} (l9 : L ≤ 240) (d : Nat) {D : Int} {un : Nat → PR} (hp : PL L un) (hs : MBp T L D (fun g => Run d 212 0 [vR 97, vU, vU] [] g) un) {u0 u1 : MV} (x0 : cat u0 = 1) (x1 : cat u1 = 1) :
    ∀ (r a : Nat) (w : Bool) (cs : List Int) (vs vt : VF) (z0 z1 z3 : MV) (G : MH), 241 ≤ a + r → a ≤ L → RT T L G → G 97 12 = D → cat z0 = 1 → cat z1 = 1 → cat z3 = 1 → (∀ lt, vs lt = 0 ∨ vs lt = 1) → (∀ lt, vt lt = 0 ∨ vt lt = 1) →
      MB G (cdL T L un r a w cs vs vt) (cI (Run (d + 1) 204 18 [vR 97, z0, z1, .inl (vt (ltM G)), z3] [] (mg G a (-1))) (KC d u0 u1 w (vs (ltM G)))) := by
  intro r
  induction r with
  | zero =>
    intro a w cs vs vt z0 z1 z3 G hr ha t hD y0 y1 y3 bs bt
    omega
  | succ r ih =>
    intro a w cs vs vt z0 z1 z3 G hr ha t hD y0 y1 y3 bs bt
    have l1 := sk_le T L a
    have l2 := sk_L (T := T) ha
    have bo := ov_01 (w := w) bs bt
    unfold cdL
    rw [m_partL t l9 d ha y0 y1 y3 (bt _)]
    by_cases q1 : sgF T L (skF T L a) 124
    · have n1 : ¬ sgF T L (skF T L a) 38 := fun z => by have := z.2; have := q1.2; omega
      rw [if_pos q1, if_neg n1, cI_some, KC_S t l9 d l2 x0 x1 w bs bt, sk_sk ha, if_pos q1, q204_0, if_pos rfl]
      have g := hs G (skF T L a + 1) q1.1 t hD
      have gp := hp (skF T L a + 1) q1.1
      generalize un (skF T L a + 1) = o at g gp ⊢
      obtain ⟨q5, o⟩ := o
      have g1 : skF T L a + 1 ≤ q5 := gp.1
      cases o with
      | none =>
        obtain ⟨x, G2, v1, v2, v3⟩ := g.2 q5 rfl
        have v1' : Run d 212 0 [vR 97, vU, vU] [] (mg G (skF T L a + 1) (-1)) = some (some (.inl x), mg G2 q5 q5) := v1
        rw [v1', cI_some, m_partF d G2 q5 rfl rfl rfl v3, cI_some]
        obtain ⟨y, hy, hy2⟩ := KC_F d x0 x1 true (ovF w vs vt (ltM G)) v3 G2 q5
        exact MB_n hy v2 hy2
      | some cv =>
        obtain ⟨c, v⟩ := cv
        obtain ⟨v1, v2⟩ := g.1 q5 c v rfl
        have v1' : Run d 212 0 [vR 97, vU, vU] [] (mg G (skF T L a + 1) (-1)) = some (some (.inl (v (ltM G))), mg G q5 (-1)) := v1
        rw [v1', cI_some]
        exact ih q5 true _ (ovF w vs vt) v (.inl 0) (.inl 0) vU G (by omega) gp.2.1 t hD rfl rfl rfl bo v2
    · rw [if_neg q1]
      by_cases q2 : sgF T L (skF T L a) 38
      · rw [if_pos q2, if_pos q2]
        have g := hs G (skF T L a + 1) q2.1 t hD
        have gp := hp (skF T L a + 1) q2.1
        generalize un (skF T L a + 1) = o at g gp ⊢
        obtain ⟨q5, o⟩ := o
        have g1 : skF T L a + 1 ≤ q5 := gp.1
        cases o with
        | none =>
          obtain ⟨x, G2, v1, v2, v3⟩ := g.2 q5 rfl
          have v1' : Run d 212 0 [vR 97, vU, vU] [] (mg G (skF T L a + 1) (-1)) = some (some (.inl x), mg G2 q5 q5) := v1
          rw [v1', cI_some, m_partF d G2 q5 y0 y1 rfl (anV_01 _ _), cI_some]
          obtain ⟨y, hy, hy2⟩ := KC_F d x0 x1 w (vs (ltM G)) (anV_01 (vt (ltM G)) x) G2 q5
          exact MB_n hy v2 hy2
        | some cv =>
          obtain ⟨c, v⟩ := cv
          obtain ⟨v1, v2⟩ := g.1 q5 c v rfl
          have v1' : Run d 212 0 [vR 97, vU, vU] [] (mg G (skF T L a + 1) (-1)) = some (some (.inl (v (ltM G))), mg G q5 (-1)) := v1
          rw [v1', cI_some, ← an_01 (bt (ltM G)) (v2 (ltM G))]
          exact ih q5 w _ vs (fun lt => iAnd (vt lt) (v lt)) z0 z1 _ G (by omega) gp.2.1 t hD y0 y1 rfl bs (fun lt => by
            show iAnd (vt lt) (v lt) = 0 ∨ iAnd (vt lt) (v lt) = 1
            rw [an_01 (bt lt) (v2 lt)]; exact anV_01 _ _)
      · rw [if_neg q2, if_neg q2, cI_some, KC_S t l9 d l2 x0 x1 w bs bt, sk_sk ha, if_neg q1]
        exact MB_s (v := ovF w vs vt) rfl bo
theorem m_condG {T : Nat → Int} {L : Nat} (l9 : L ≤ 240) (d : Nat) {D : Int} {un : Nat → PR} (hp : PL L un) (hs : MBp T L D (fun g => Run d 212 0 [vR 97, vU, vU] [] g) un) {G : MH} {a b : Nat} {x0 x1 : Int} {o : PR} (t : RT T L G) (hD : G 97 12 = D) (g : MB G o (if x0 = 0 then Run d 212 0 [vR 97, vU, vU] [] (mg G a (-1)) else Run d 205 0 [vR 97, .inl 1, .inl x1, vU, vU, vU] [] (mg G a (-1)))) (gp : PO L b o) :
    MB G (cdG T L un o) (Run (d + 2) 203 0 [vR 97, .inl x0, .inl x1, vU, vU] [] (mg G a (-1))) := by
  obtain ⟨R, hR⟩ : ∃ R, R = (if x0 = 0 then Run d 212 0 [vR 97, vU, vU] [] (mg G a (-1)) else Run d 205 0 [vR 97, .inl 1, .inl x1, vU, vU, vU] [] (mg G a (-1))) := ⟨_, rfl⟩
  have hd : Run (d + 2) 203 0 [vR 97, .inl x0, .inl x1, vU, vU] [] (mg G a (-1)) = cI (cI R fun a3 h2 => Run (d + 1) 204 18 [vR 97, .inl x0, .inl x1, .inl a3, vU] [] h2) fun a2 h1 => Run (d + 2) 203 7 [vR 97, .inl x0, .inl x1, .inl a2, vU] [] h1 := by
    rw [q203_0, q204_0, hR]
    by_cases q : x0 = 0
    · rw [if_pos q, if_pos q]
    · rw [if_neg q, if_neg q]
  rw [← hR] at g
  rw [hd]
  have ek : (fun a2 h1 => Run (d + 2) 203 7 [vR 97, .inl x0, .inl x1, .inl a2, vU] [] h1) = KC d (.inl x0) (.inl x1) false 0 := by
    unfold KC
    funext t h
    rw [if_neg Bool.false_ne_true]
  rw [ek]
  unfold cdG
  obtain ⟨q5, o⟩ := o
  cases o with
  | none =>
    obtain ⟨x, G2, v1, v2, v3⟩ := g.2 q5 rfl
    rw [v1, cI_some, m_partF d G2 q5 rfl rfl rfl v3, cI_some]
    obtain ⟨y, hy, hy2⟩ := KC_F d (z0 := .inl x0) (z1 := .inl x1) rfl rfl false 0 v3 G2 q5
    exact MB_n hy v2 hy2
  | some cv =>
    obtain ⟨c, v⟩ := cv
    obtain ⟨v1, v2⟩ := g.1 q5 c v rfl
    rw [v1, cI_some]
    exact m_condLoop l9 d hp hs (u0 := .inl x0) (u1 := .inl x1) rfl rfl 241 q5 false c (fun _ => 0) v (.inl x0) (.inl x1) vU G (by omega) gp.2.1 t hD rfl rfl rfl (fun _ => Or.inl rfl) v2
theorem m_lvU (T : Nat → Int) {L : Nat} (l9 : L ≤ 240) : ∀ (k d : Nat), k ≤ 6 → MBp T L (6 - (k : Int)) (fun g => Run (d + 3 * k + 10) 212 0 [vR 97, vU, vU] [] g) (lvU T L k)
  | 0, d, _ => m_unit l9 (d + 8) (by omega) (by omega) (by constructor <;> intro z <;> first | cases z | omega) (no_P L) (no_P L) (lvS_P T L 0) (fun z => by cases z) (fun z => by cases z) (m_lvS T l9 0 d (by omega))
  | k + 1, d, hk => by
    have iu := m_lvU T l9 k (d + 2) (by omega)
    have iu0 := m_lvU T l9 k d (by omega)
    have e := m_unit (T := T) (L := L) l9 (d + 3 * k + 11) (D := 6 - ((k + 1 : Nat) : Int)) (by omega) (by omega) (ok := true) (by constructor <;> intro _ <;> first | rfl | omega) (lvU_P T L k) (lvC_P T L k) (lvS_P T L (k + 1)) (fun _ => by
      rw [show (6 - ((k + 1 : Nat) : Int) + 1) = 6 - (k : Int) by omega, show d + 3 * k + 11 + 1 = d + 2 + 3 * k + 10 by omega]
      exact iu) (fun _ => by
      rw [show (6 - ((k + 1 : Nat) : Int) + 1) = 6 - (k : Int) by omega]
      intro G a ha t hD
      exact m_condG l9 (d + 3 * k + 10) (lvU_P T L k) iu0 (x0 := 0) (x1 := 0) t hD (by rw [if_pos rfl]; exact iu0 G a ha t hD) (lvU_P T L k a ha)) (m_lvS T l9 (k + 1) d hk)
    rw [show d + 3 * (k + 1) + 10 = d + 3 * k + 11 + 2 by omega]
    exact e
theorem m_lvC (T : Nat → Int) {L : Nat} (l9 : L ≤ 240) (k d : Nat) (hk : k ≤ 6) : MBp T L (6 - (k : Int)) (fun g => Run (d + 3 * k + 12) 203 0 [vR 97, .inl 0, .inl 0, vU, vU] [] g) (lvC T L k) := by
  intro G a ha t hD
  have iu0 := m_lvU T l9 k d hk
  exact m_condG l9 (d + 3 * k + 10) (lvU_P T L k) iu0 (x0 := 0) (x1 := 0) t hD (by rw [if_pos rfl]; exact iu0 G a ha t hD) (lvU_P T L k a ha)
def ccV (e : CE) (lt : Nat → Int) : Int := match e.1 with
  | none => 1
  | some (_, cv) => cv lt
def fdH (G : MH) (e : CE) : MH := if G 97 17 = 0 ∧ ¬ ccV e (ltM G) = 0 then up (up G 97 17 1) 97 14 (e.2.2 (ltM G)) else G
abbrev MC (G : MH) (o : Nat × Option CE) (r : Option (Option MV × MH)) : Prop := (∀ q e, o = (q, some e) → r = some (none, mg (fdH G e) q (-1))) ∧ ∀ q, o = (q, none) → ∃ G2, r = some (none, mg G2 q q) ∧ dpE G G2
theorem MC_n {G G2 : MH} {q : Nat} {r : Option (Option MV × MH)} (e : r = some (none, mg G2 q q)) (f : dpE G G2) : MC G (q, none) r := ⟨fun q' c z => (by cases z), fun q' z => by
  have : q = q' := congrArg Prod.fst z
  subst this
  exact ⟨G2, e, f⟩⟩
theorem MC_s {G : MH} {q : Nat} {c : CE} {r : Option (Option MV × MH)} (e : r = some (none, mg (fdH G c) q (-1))) : MC G (q, some c) r := ⟨fun q' c' z => by
  cases z
  exact e, fun q' z => (by cases z)⟩
theorem m_found (d : Nat) {G : MH} {q : Nat} {z : MV} (hz : cat z = 1) (lb : G 97 13 = 121) (e : CE) : Run (d + 1) 200 134 [vR 97, .inl 121, .inl (ccV e (ltM G)), .inl (e.2.2 (ltM G)), z] [] (mg G q (-1)) = some (none, mg (fdH G e) q (-1)) := by
  rw [q200_134 (hz3 := hz), mg_fl, if_neg (fun w => w rfl), mg_o _ _ _ (by omega) (by omega), mg_o _ _ _ (by omega) (by omega), lb]
  unfold fdH
  by_cases q1 : G 97 17 = 0
  · rw [if_neg (fun w => w q1), if_neg (fun w => w rfl)]
    by_cases q2 : ccV e (ltM G) = 0
    · rw [if_neg (fun w => w q2), if_neg (fun w => w.2 q2)]
    · rw [if_pos q2, if_pos ⟨q1, q2⟩, mg_uf _ _ _ _ (by omega) (by omega), mg_uf _ _ _ _ (by omega) (by omega)]
  · rw [if_pos q1, if_neg (fun w => q1 w.1)]
theorem m_clauseT {T : Nat → Int} {L : Nat} (l9 : L ≤ 240) (d : Nat) {G : MH} {b : Nat} {z : MV} (hz : cat z = 1) {o : PR} {R : Option (Option MV × MH)} (t : RT T L G) (hD : G 97 12 = 0) (lb : G 97 13 = 121) (g : MB G o R) (gp : PO L b o) :
    MC G (cuT T L o) (cI R fun a13 h12 => cI (Run (d + 30) 202 0 [vR 97, .inl 63] [] h12) fun a15 h14 => if ¬ a15 = 0 then cI (Run (d + 30) 206 0 [vR 97, vU, vU, vU, vU] [] h14) fun a18 h17 => Run (d + 31) 200 134 [vR 97, .inl 121, .inl a13, .inl a18, z] [] h17 else some (none, h14)) := by
  unfold cuT
  obtain ⟨q5, o⟩ := o
  have g2 : q5 ≤ L := gp.2.1
  cases o with
  | none =>
    obtain ⟨x, G2, v1, v2, v3⟩ := g.2 q5 rfl
    rw [v1, cI_some, m_takesF (d + 29) _ _ (by omega), cI_some, if_neg (fun w => w rfl)]
    exact MC_n rfl v2
  | some cv =>
    obtain ⟨c, v⟩ := cv
    obtain ⟨v1, v2⟩ := g.1 q5 c v rfl
    rw [v1, cI_some, m_takes t l9 (d + 29) g2 (by omega) (by omega)]
    dsimp only
    by_cases z1 : sgF T L (skF T L q5) 63
    · rw [if_pos z1, if_pos z1, cI_some, if_pos (by omega)]
      have es := m_lvS T l9 6 (d + 4) (by omega) G (skF T L q5 + 1) z1.1 t hD
      generalize lvS T L 6 (skF T L q5 + 1) = o2 at es ⊢
      obtain ⟨q6, o2⟩ := o2
      cases o2 with
      | none =>
        obtain ⟨x, G2, w1, w2⟩ := es.2 q6 rfl
        have w1' : Run (d + 30) 206 0 [vR 97, vU, vU, vU, vU] [] (mg G (skF T L q5 + 1) (-1)) = some (some (.inl x), mg G2 q6 q6) := w1
        rw [w1', cI_some, q200_134 (hz3 := hz), mg_fl, if_pos (by omega)]
        exact MC_n rfl w2
      | some cv2 =>
        obtain ⟨c2, v2⟩ := cv2
        have w1 := es.1 q6 c2 v2 rfl
        have w1' : Run (d + 30) 206 0 [vR 97, vU, vU, vU, vU] [] (mg G (skF T L q5 + 1) (-1)) = some (some (.inl (v2 (ltM G))), mg G q6 (-1)) := w1
        rw [w1', cI_some]
        exact MC_s (m_found (d + 30) hz lb (some (c, v), (c2, v2)))
    · rw [if_neg z1, if_neg z1, cI_some, if_neg (fun w => w rfl)]
      exact MC_n rfl (dpE.rf G)
theorem m_lawClause {T : Nat → Int} {L : Nat} (l9 : L ≤ 240) (d : Nat) {G : MH} {a : Nat} (ha : a ≤ L) (t : RT T L G) (hD : G 97 12 = 0) (lb : G 97 13 = 121) :
    MC G (cuF T L a) (Run (d + 31) 200 0 [vR 97, vU, vU, vU, vU] [] (mg G a (-1))) := by
  have l2 := sk_L (T := T) ha
  have hd := q200_0 (d + 30) (mg G a (-1))
  rw [m_look t _ _ ha, cI_some, m_among126 (d + 25), cI_some, mg_nx _ _ (by omega)] at hd
  have k0 := lk_sg (p := skF T L a) t.2 (s := 121) (by omega) (by omega)
  unfold cuF
  by_cases z1 : sgF T L (skF T L a) 121
  · rw [bi_t (k0.2 z1), if_pos (by omega), m_takes t l9 (d + 29) z1.1 (by omega) (by omega), k0.2 z1] at hd
    rw [if_neg (fun z => z z1)]
    by_cases z2 : sgF T L (skF T L (skF T L a + 1)) 58
    · obtain ⟨p, hp⟩ : ∃ p, p = skF T L (skF T L (skF T L a + 1) + 1) := ⟨_, rfl⟩
      have pL : p ≤ L := by rw [hp]; exact sk_L z2.1
      rw [if_pos z2, cI_some, if_pos (by omega), m_look t _ _ z2.1, cI_some, ← hp] at hd
      rw [if_neg (fun z => z z2), ← hp]
      have k1 := lk_sg (p := p) t.2 (s := 33) (by omega) (by omega)
      have k2 := lk_sg (p := p) t.2 (s := 40) (by omega) (by omega)
      by_cases z3 : sgF T L p 33 ∨ sgF T L p 40
      · rw [if_pos z3]
        have gc := m_lvC T l9 6 d (by omega) G p pL t hD
        have g := m_clauseT l9 d (z := .inl (lkG T L p)) rfl t hD lb gc (lvC_P T L 6 p pL)
        by_cases z4 : sgF T L p 33
        · rw [if_pos (k1.2 z4)] at hd
          rw [hd]
          exact g
        · have z5 : sgF T L p 40 := z3.resolve_left z4
          rw [if_neg (fun z => z4 (k1.1 z)), if_neg (fun z => z (k2.2 z5))] at hd
          rw [hd]
          exact g
      · have n3 : ¬ sgF T L p 33 := fun z => z3 (Or.inl z)
        have n4 : ¬ sgF T L p 40 := fun z => z3 (Or.inr z)
        rw [if_neg (fun z => n3 (k1.1 z)), if_pos (fun z => n4 (k2.1 z))] at hd
        rw [if_neg z3]
        have g := m_lvS T l9 6 (d + 4) (by omega) G p pL t hD
        have gp := lvS_P T L 6 p pL
        generalize lvS T L 6 p = o at g gp ⊢
        obtain ⟨q5, o⟩ := o
        have g2 : q5 ≤ L := gp.2.1
        cases o with
        | none =>
          obtain ⟨x, G2, u1, u2⟩ := g.2 q5 rfl
          have u1' : Run (d + 30) 206 0 [vR 97, vU, vU, vU, vU] [] (mg G p (-1)) = some (some (.inl x), mg G2 q5 q5) := u1
          rw [u1', cI_some, mg_fl, if_pos (by omega), q200_134 (hz3 := rfl), mg_fl, if_pos (by omega)] at hd
          exact MC_n hd u2
        | some cv =>
          obtain ⟨c, v⟩ := cv
          have u1 := g.1 q5 c v rfl
          have u1' : Run (d + 30) 206 0 [vR 97, vU, vU, vU, vU] [] (mg G p (-1)) = some (some (.inl (v (ltM G))), mg G q5 (-1)) := u1
          rw [u1', cI_some, mg_fl, if_neg (fun z => z rfl), m_look t _ _ g2, cI_some, m_sign t.2, cI_some] at hd
          dsimp only
          rcases cg_c T L (skF T L q5) with q | ⟨q, q2⟩
          · rw [bi_f (fun z => z q), if_pos rfl] at hd
            rw [if_pos q, hd]
            exact MC_s (m_found (d + 30) rfl lb (none, (c, v)))
          · rw [bi_t (by omega), if_neg (by omega)] at hd
            rw [if_neg (by omega), hd]
            have iu0 := m_lvU T l9 6 d (by omega)
            have g5 := m_cmpT (T := T) l9 (d + 27) (c1 := c) (v1 := v) (z0 := .inl 1) (z1 := .inl (v (ltM G))) (z2 := vU) (z3 := vU) (z4 := vU) (lvS_P T L 6) (m_lvS T l9 6 (d + 1) (by omega)) (sk_L (T := T) g2) t hD rfl rfl rfl rfl rfl
            have g6 := m_condG l9 (d + 28) (lvU_P T L 6) iu0 (a := skF T L q5) (x0 := 1) (x1 := v (ltM G)) t hD (by
              rw [if_neg (by omega), q205_0, if_neg (by omega)]
              exact g5) (cm_P (b := p) (lvS_P T L 6) (sk_L g2) (by have := (gp.2.2 c v rfl).1; have l5 := sk_le T L q5; have h3 : p + c.length ≤ q5 := this; omega))
            exact m_clauseT l9 d rfl t hD lb g6 (cdG_P (lvU_P T L 6) (cm_P (b := p) (lvS_P T L 6) (sk_L g2) (by have := (gp.2.2 c v rfl).1; have l5 := sk_le T L q5; have h3 : p + c.length ≤ q5 := this; omega)))
    · rw [if_neg z2, cI_some, if_neg (fun z => z rfl)] at hd
      rw [if_pos z2]
      exact MC_n hd (dpE.rf G)
  · rw [bi_f (fun z => z1 (k0.1 z)), if_neg (fun z => z rfl), m_fails, cI_some, if_pos rfl] at hd
    rw [if_pos z1]
    exact MC_n hd (dpE.rf G)
