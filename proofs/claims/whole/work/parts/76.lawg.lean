/-! laws: the reference goes through the whole text -/
def prE (G G2 : MH) : Prop := ∀ c j, ¬ (c = 97 ∧ (j = 12 ∨ j = 17 ∨ j = 14)) → G2 c j = G c j
theorem prE.tr {G G1 G2 : MH} (e : prE G G1) (f : prE G1 G2) : prE G G2 := fun c j q => by rw [f c j q, e c j q]
theorem prE_d {G G2 : MH} (e : dpE G G2) : prE G G2 := fun c j q => e c j (fun z => q ⟨z.1, Or.inl z.2⟩)
theorem prE_f (G : MH) (e : CE) : prE G (fdH G e) := fun c j q => by
  unfold fdH
  split
  · by_cases z : c = 97
    · subst z
      rw [up_i (fun y => q ⟨rfl, Or.inr (Or.inr y)⟩), up_i (fun y => q ⟨rfl, Or.inr (Or.inl y)⟩)]
    · rw [up_ne z, up_ne z]
  · rfl
theorem prE_R {T : Nat → Int} {L : Nat} {G G2 : MH} (e : prE G G2) (t : RT T L G) : RT T L G2 := t.mv (e _ _ (by omega)) (e _ _ (by omega)) (e _ _ (by omega)) (funext fun j => e _ _ (by omega)) (funext fun j => e _ _ (by omega))
theorem prE_l {G G2 : MH} (e : prE G G2) : ltM G2 = ltM G := ltM_c (funext fun j => e _ _ (by omega))
theorem fdH_d (G : MH) (e : CE) : fdH G e 97 12 = G 97 12 := by
  unfold fdH
  split
  · rw [up_i (by omega), up_i (by omega)]
  · rfl
/-- the first clause that holds -/
def wvD : List CE → (Nat → Int) → Int → Int
  | [], _, x => x
  | e :: es, lt, x => if ccV e lt = 0 then wvD es lt x else e.2.2 lt
theorem m_lawLoop98 {T : Nat → Int} {L : Nat} (l9 : L ≤ 240) (d : Nat) {z0 z1 : MV} (y0 : cat z0 = 1) (y1 : cat z1 = 1) : ∀ (r a : Nat) (G : MH), 241 ≤ a + r → a ≤ L → RT T L G → G 97 12 = 0 → G 97 13 = 121 →
    ∃ G2 a2, cV (Run (d + 31) 200 0 [vR 97, vU, vU, vU, vU] [] (mg G a (-1))) (fun h => Run (d + 32) 199 32 [vR 97, vR 98, z0, z1] [] h) = some (none, mg G2 a2 (flO (lwF T L r a))) ∧ prE G G2 ∧ ∀ es, (lwF T L r a).2 = some es → G2 97 14 = if G 97 17 = 0 then wvD es (ltM G) (G 97 14) else G 97 14 := by
  intro r
  induction r with
  | zero =>
    intro a G hr ha t hD lb
    omega
  | succ r ih =>
    intro a G hr ha t hD lb
    have g := m_lawClause l9 d ha t hD lb
    have cl := cu_P (T := T) (L := L) ha
    unfold lwF
    generalize cuF T L a = o at g cl ⊢
    obtain ⟨q, o⟩ := o
    have qL : q ≤ L := cl.2.1
    cases o with
    | none =>
      obtain ⟨G2, v1, v2⟩ := g.2 q rfl
      rw [v1, cV_some, q199_32 (hz0 := y0) (hz1 := y1), mg_fl, if_pos (by omega), if_pos (by omega)]
      exact ⟨G2, q, rfl, prE_d v2, fun es h => by cases h⟩
    | some e =>
      have v1 := g.1 q e rfl
      have pe := prE_f G e
      have t1 := prE_R pe t
      obtain ⟨c1, c2⟩ := cl.2.2 e rfl
      have c1' : a + 1 ≤ q := c1
      have sq := sk_le T L q
      have l2 := sk_L (T := T) qL
      -- what is found behind this clause
      have ff : ∀ es, (if fdH G e 97 17 = 0 then wvD es (ltM (fdH G e)) (fdH G e 97 14) else fdH G e 97 14) = if G 97 17 = 0 then wvD (e :: es) (ltM G) (G 97 14) else G 97 14 := by
        intro es
        rw [prE_l pe]
        have ew : wvD (e :: es) (ltM G) (G 97 14) = if ccV e (ltM G) = 0 then wvD es (ltM G) (G 97 14) else e.2.2 (ltM G) := rfl
        rw [ew]
        by_cases z1 : G 97 17 = 0
        · by_cases z2 : ccV e (ltM G) = 0
          · have ef : fdH G e = G := if_neg (fun w => w.2 z2)
            rw [ef, if_pos z1, if_pos z1, if_pos z2]
          · have ef : fdH G e = up (up G 97 17 1) 97 14 (e.2.2 (ltM G)) := if_pos ⟨z1, z2⟩
            rw [ef, up_i (by omega), up_s, if_neg (by omega), up_s, if_pos z1, if_neg z2]
        · have ef : fdH G e = G := if_neg (fun w => z1 w.1)
          rw [ef, if_neg z1, if_neg z1]
      rw [v1, cV_some, q199_32 (hz0 := y0) (hz1 := y1), mg_fl, if_neg (fun w => w rfl), m_look t1 _ _ qL, cI_some]
      dsimp only
      by_cases q1 : skF T L q < L
      · rw [if_neg (c := ¬ skF T L q < L) (fun w => w q1)]
        by_cases q2 : T (skF T L q) = 59
        · rw [if_neg (fun w => w ((lk_sg t.2 (by omega) (by omega)).2 ⟨q1, q2⟩)), mg_nx _ _ (by omega), if_pos q2]
          obtain ⟨G2, a2, w1, w2, w3⟩ := ih (skF T L q + 1) (fdH G e) (by omega) q1 t1 (by rw [fdH_d]; exact hD) (by rw [pe _ _ (by omega)]; exact lb)
          generalize lwF T L r (skF T L q + 1) = o2 at w1 w3 ⊢
          obtain ⟨q6, o2⟩ := o2
          cases o2 with
          | none => exact ⟨G2, a2, w1, pe.tr w2, fun es h => by cases h⟩
          | some es0 =>
            refine ⟨G2, a2, w1, pe.tr w2, fun es h => ?_⟩
            have := Option.some.inj h
            rw [← this, w3 es0 rfl]
            exact ff es0
        · rw [if_pos (fun w => q2 ((lk_sg t.2 (by omega) (by omega)).1 w).2), mg_fl, if_neg (fun w => w rfl), m_look t1 _ _ l2, cI_some, sk_sk qL, if_neg (fun w => (lk_end t.2).1 w q1), m_fails, cI_some, if_pos rfl, if_neg q2]
          exact ⟨_, _, rfl, pe, fun es h => by cases h⟩
      · rw [if_pos (c := ¬ skF T L q < L) q1, if_pos (fun w => q1 ((lk_sg t.2 (by omega) (by omega)).1 w).1), mg_fl, if_neg (fun w => w rfl), m_look t1 _ _ l2, cI_some, sk_sk qL, if_pos ((lk_end t.2).2 q1)]
        refine ⟨_, _, rfl, pe, fun es h => ?_⟩
        have := Option.some.inj h
        rw [← this]
        have f0 := ff []
        have e0 : wvD [] (ltM (fdH G e)) (fdH G e 97 14) = fdH G e 97 14 := rfl
        rw [e0] at f0
        rw [← f0]
        split <;> rfl
theorem m_goThrough98 {T : Nat → Int} {L : Nat} (l9 : L ≤ 240) (d : Nat) {h : MH} {bg : Int} (t : RT T L (stM h 98 bg L)) :
    ∃ hm2, Run (d + 32) 199 0 [vR 97, vR 98, .inl bg, .inl (L : Int)] [] h = some (none, hm2) ∧ hm2 97 11 = flO (lwF T L 241 0) ∧ (∀ a j, ¬ (a = 97 ∧ prF_ j) → hm2 a j = h a j) ∧ ∀ es, (lwF T L 241 0).2 = some es → hm2 97 14 = wvD es (ltM h) 0 := by
  have hd := q199_0 (d + 31) bg (L : Int) h
  have e1 : Run (d + 31) 185 0 [vR 97, vR 98, .inl bg, .inl (L : Int)] [] h = some (none, mg (stM h 98 bg (L : Int)) 0 (-1)) := by
    first | exact q185_0 (d + 31) bg L h | exact q185_0_1 (d + 31) bg L h
  rw [e1, cV_some, mg_uf _ _ _ _ (by omega) (by omega), mg_uf _ _ _ _ (by omega) (by omega), mg_uf _ _ _ _ (by omega) (by omega), mg_uf _ _ _ _ (by omega) (by omega)] at hd
  obtain ⟨G, hG⟩ : ∃ G, G = up (up (up (up (stM h 98 bg (L : Int)) 97 13 121) 97 12 0) 97 17 0) 97 14 0 := ⟨_, rfl⟩
  rw [← hG] at hd
  have tG : RT T L G := by rw [hG]; exact rt_uf (rt_uf (rt_uf (rt_uf t (by omega) (by omega) (by omega)) (by omega) (by omega) (by omega)) (by omega) (by omega) (by omega)) (by omega) (by omega) (by omega)
  obtain ⟨G2, a2, w1, w2, w3⟩ := m_lawLoop98 l9 d (z0 := .inl bg) (z1 := .inl (L : Int)) rfl rfl 241 0 G (by omega) (by omega) tG (by rw [hG, up_i (by omega), up_i (by omega), up_s]) (by rw [hG, up_i (by omega), up_i (by omega), up_i (by omega), up_s])
  refine ⟨_, hd.trans w1, mg_fl _ _ _, fun a j q => ?_, fun es hs => ?_⟩
  · by_cases z : a = 97
    · subst z
      have n : ¬ prF_ j := fun y => q ⟨rfl, y⟩
      unfold prF_ at n
      rw [mg_o _ _ _ (by omega) (by omega), w2 _ _ (by omega), hG, up_i (by omega), up_i (by omega), up_i (by omega), up_i (by omega), stM_f _ _ _ _ (by omega) (by omega) (by omega)]
    · rw [mg_ne _ _ _ z, w2 _ _ (by omega), hG, up_ne z, up_ne z, up_ne z, up_ne z, stM_o _ _ _ _ z]
  · have e : ltM G = ltM h := ltM_c (by rw [hG, up_ne (by omega), up_ne (by omega), up_ne (by omega), up_ne (by omega), stM_o _ _ _ _ (by omega)])
    rw [mg_o _ _ _ (by omega) (by omega), w3 es hs, e, if_pos (by rw [hG, up_i (by omega), up_s]), hG, up_s]
theorem m_lawLoop99 {T : Nat → Int} {L : Nat} (l9 : L ≤ 240) (d : Nat) {z0 z1 : MV} (y0 : cat z0 = 1) (y1 : cat z1 = 1) : ∀ (r a : Nat) (G : MH), 241 ≤ a + r → a ≤ L → RT T L G → G 97 12 = 0 → G 97 13 = 121 →
    ∃ G2 a2, cV (Run (d + 31) 200 0 [vR 97, vU, vU, vU, vU] [] (mg G a (-1))) (fun h => Run (d + 32) 199 32 [vR 97, vR 99, z0, z1] [] h) = some (none, mg G2 a2 (flO (lwF T L r a))) ∧ prE G G2 ∧ ∀ es, (lwF T L r a).2 = some es → G2 97 14 = if G 97 17 = 0 then wvD es (ltM G) (G 97 14) else G 97 14 := by
  intro r
  induction r with
  | zero =>
    intro a G hr ha t hD lb
    omega
  | succ r ih =>
    intro a G hr ha t hD lb
    have g := m_lawClause l9 d ha t hD lb
    have cl := cu_P (T := T) (L := L) ha
    unfold lwF
    generalize cuF T L a = o at g cl ⊢
    obtain ⟨q, o⟩ := o
    have qL : q ≤ L := cl.2.1
    cases o with
    | none =>
      obtain ⟨G2, v1, v2⟩ := g.2 q rfl
      rw [v1, cV_some, q199_32_1 (hz0 := y0) (hz1 := y1), mg_fl, if_pos (by omega), if_pos (by omega)]
      exact ⟨G2, q, rfl, prE_d v2, fun es h => by cases h⟩
    | some e =>
      have v1 := g.1 q e rfl
      have pe := prE_f G e
      have t1 := prE_R pe t
      obtain ⟨c1, c2⟩ := cl.2.2 e rfl
      have c1' : a + 1 ≤ q := c1
      have sq := sk_le T L q
      have l2 := sk_L (T := T) qL
      -- what is found behind this clause
      have ff : ∀ es, (if fdH G e 97 17 = 0 then wvD es (ltM (fdH G e)) (fdH G e 97 14) else fdH G e 97 14) = if G 97 17 = 0 then wvD (e :: es) (ltM G) (G 97 14) else G 97 14 := by
        intro es
        rw [prE_l pe]
        have ew : wvD (e :: es) (ltM G) (G 97 14) = if ccV e (ltM G) = 0 then wvD es (ltM G) (G 97 14) else e.2.2 (ltM G) := rfl
        rw [ew]
        by_cases z1 : G 97 17 = 0
        · by_cases z2 : ccV e (ltM G) = 0
          · have ef : fdH G e = G := if_neg (fun w => w.2 z2)
            rw [ef, if_pos z1, if_pos z1, if_pos z2]
          · have ef : fdH G e = up (up G 97 17 1) 97 14 (e.2.2 (ltM G)) := if_pos ⟨z1, z2⟩
            rw [ef, up_i (by omega), up_s, if_neg (by omega), up_s, if_pos z1, if_neg z2]
        · have ef : fdH G e = G := if_neg (fun w => z1 w.1)
          rw [ef, if_neg z1, if_neg z1]
      rw [v1, cV_some, q199_32_1 (hz0 := y0) (hz1 := y1), mg_fl, if_neg (fun w => w rfl), m_look t1 _ _ qL, cI_some]
      dsimp only
      by_cases q1 : skF T L q < L
      · rw [if_neg (c := ¬ skF T L q < L) (fun w => w q1)]
        by_cases q2 : T (skF T L q) = 59
        · rw [if_neg (fun w => w ((lk_sg t.2 (by omega) (by omega)).2 ⟨q1, q2⟩)), mg_nx _ _ (by omega), if_pos q2]
          obtain ⟨G2, a2, w1, w2, w3⟩ := ih (skF T L q + 1) (fdH G e) (by omega) q1 t1 (by rw [fdH_d]; exact hD) (by rw [pe _ _ (by omega)]; exact lb)
          generalize lwF T L r (skF T L q + 1) = o2 at w1 w3 ⊢
          obtain ⟨q6, o2⟩ := o2
          cases o2 with
          | none => exact ⟨G2, a2, w1, pe.tr w2, fun es h => by cases h⟩
          | some es0 =>
            refine ⟨G2, a2, w1, pe.tr w2, fun es h => ?_⟩
            have := Option.some.inj h
            rw [← this, w3 es0 rfl]
            exact ff es0
        · rw [if_pos (fun w => q2 ((lk_sg t.2 (by omega) (by omega)).1 w).2), mg_fl, if_neg (fun w => w rfl), m_look t1 _ _ l2, cI_some, sk_sk qL, if_neg (fun w => (lk_end t.2).1 w q1), m_fails, cI_some, if_pos rfl, if_neg q2]
          exact ⟨_, _, rfl, pe, fun es h => by cases h⟩
      · rw [if_pos (c := ¬ skF T L q < L) q1, if_pos (fun w => q1 ((lk_sg t.2 (by omega) (by omega)).1 w).1), mg_fl, if_neg (fun w => w rfl), m_look t1 _ _ l2, cI_some, sk_sk qL, if_pos ((lk_end t.2).2 q1)]
        refine ⟨_, _, rfl, pe, fun es h => ?_⟩
        have := Option.some.inj h
        rw [← this]
        have f0 := ff []
        have e0 : wvD [] (ltM (fdH G e)) (fdH G e 97 14) = fdH G e 97 14 := rfl
        rw [e0] at f0
        rw [← f0]
        split <;> rfl
theorem m_goThrough99 {T : Nat → Int} {L : Nat} (l9 : L ≤ 240) (d : Nat) {h : MH} {bg : Int} (t : RT T L (stM h 99 bg L)) :
    ∃ hm2, Run (d + 32) 199 0 [vR 97, vR 99, .inl bg, .inl (L : Int)] [] h = some (none, hm2) ∧ hm2 97 11 = flO (lwF T L 241 0) ∧ (∀ a j, ¬ (a = 97 ∧ prF_ j) → hm2 a j = h a j) ∧ ∀ es, (lwF T L 241 0).2 = some es → hm2 97 14 = wvD es (ltM h) 0 := by
  have hd := q199_0_1 (d + 31) bg (L : Int) h
  have e1 : Run (d + 31) 185 0 [vR 97, vR 99, .inl bg, .inl (L : Int)] [] h = some (none, mg (stM h 99 bg (L : Int)) 0 (-1)) := by
    first | exact q185_0 (d + 31) bg L h | exact q185_0_1 (d + 31) bg L h
  rw [e1, cV_some, mg_uf _ _ _ _ (by omega) (by omega), mg_uf _ _ _ _ (by omega) (by omega), mg_uf _ _ _ _ (by omega) (by omega), mg_uf _ _ _ _ (by omega) (by omega)] at hd
  obtain ⟨G, hG⟩ : ∃ G, G = up (up (up (up (stM h 99 bg (L : Int)) 97 13 121) 97 12 0) 97 17 0) 97 14 0 := ⟨_, rfl⟩
  rw [← hG] at hd
  have tG : RT T L G := by rw [hG]; exact rt_uf (rt_uf (rt_uf (rt_uf t (by omega) (by omega) (by omega)) (by omega) (by omega) (by omega)) (by omega) (by omega) (by omega)) (by omega) (by omega) (by omega)
  obtain ⟨G2, a2, w1, w2, w3⟩ := m_lawLoop99 l9 d (z0 := .inl bg) (z1 := .inl (L : Int)) rfl rfl 241 0 G (by omega) (by omega) tG (by rw [hG, up_i (by omega), up_i (by omega), up_s]) (by rw [hG, up_i (by omega), up_i (by omega), up_i (by omega), up_s])
  refine ⟨_, hd.trans w1, mg_fl _ _ _, fun a j q => ?_, fun es hs => ?_⟩
  · by_cases z : a = 97
    · subst z
      have n : ¬ prF_ j := fun y => q ⟨rfl, y⟩
      unfold prF_ at n
      rw [mg_o _ _ _ (by omega) (by omega), w2 _ _ (by omega), hG, up_i (by omega), up_i (by omega), up_i (by omega), up_i (by omega), stM_f _ _ _ _ (by omega) (by omega) (by omega)]
    · rw [mg_ne _ _ _ z, w2 _ _ (by omega), hG, up_ne z, up_ne z, up_ne z, up_ne z, stM_o _ _ _ _ z]
  · have e : ltM G = ltM h := ltM_c (by rw [hG, up_ne (by omega), up_ne (by omega), up_ne (by omega), up_ne (by omega), stM_o _ _ _ _ (by omega)])
    rw [mg_o _ _ _ (by omega) (by omega), w3 es hs, e, if_pos (by rw [hG, up_i (by omega), up_s]), hG, up_s]
theorem stM_X {T : Nat → Int} {L : Nat} {h : MH} {k : Nat} (x : txOK T L) (l : L ≤ 240) (k4 : k < 4) (e : ∀ j, j < L → h 99 (240 * k + j) = T j) : RT T L (stM h 99 ((240 * k : Nat) : Int) L) := by
  refine ⟨⟨99, 240 * k, Or.inr ⟨rfl, by omega⟩, ?_, ?_, ?_, fun j hj => ?_⟩, x⟩
  · unfold stM; rw [up_i (by omega), up_i (by omega), up_s]
  · unfold stM; rw [up_i (by omega), up_s]
  · unfold stM; rw [up_s]
  · rw [stM_o _ _ _ _ (by omega)]; exact e j hj
def esW (es : List CE) : WF := fun p m w h n d => wvD es (l6F p m w h n d) 0
theorem lawM_of {T : Nat → Int} {L : Nat} {es : List CE} (x : txOK T L) (l9 : L ≤ 240) (e : (lwF T L 241 0).2 = some es) : LawM (esW es) T (L : Int) := by
  refine ⟨by omega, ?_⟩
  intro d hm k k0 k4 hT
  obtain ⟨n, rfl⟩ : ∃ n : Nat, k = n := ⟨k.toNat, by omega⟩
  have t := stM_X (h := hm) (k := n) x l9 (by omega) (fun j hj => hT j (by omega))
  obtain ⟨hm2, u1, u2, u3, u4⟩ := m_goThrough99 l9 d t
  refine ⟨hm2, ?_, u4 es e, u3⟩
  rw [show (240 * (n : Int)) = ((240 * n : Nat) : Int) by omega]
  exact u1
