/-! faults -/
theorem tp_n {b : Int} {h : MH} (i : Inv0 b h) : ∃ L : Nat, h 1 1 = L ∧ h 97 6 = L ∧ L ≤ 240 ∧ txOK (h 15) L ∧ ∀ j, j < L → h 98 j = h 15 j := by
  obtain ⟨⟨t1, t2⟩, t3, t4⟩ := ((Inv0_iff b h).mp i).1
  refine ⟨(h 1 1).toNat, by omega, by omega, by omega, fun j hj => ?_, fun j hj => ?_⟩
  · obtain ⟨-, u2, u3, u4⟩ := t4 j (by omega)
    exact ⟨u2, u3, u4⟩
  · exact (t4 j (by omega)).1
/-- the class' reader writes only what doesn't count -/
def FRc (h h1 : MH) : Prop := ∀ c j, ¬ (c = 1 ∧ j = 2) → ¬ (c = 7 ∧ j = 4) → c ≠ 3 → c ≠ 4 → c ≠ 19 → c ≠ 20 → c ≠ 21 → c ≠ 5 → c ≠ 22 → c ≠ 37 → h1 c j = h c j
theorem FRc.V {h h1 : MH} (e : FRc h h1) : Eqv h h1 := by
  intro a j r
  apply e a j
  all_goals (intro z; first | (obtain ⟨z1, z2⟩ := z; subst z1; subst z2; exact Bool.false_ne_true r) | (subst z; exact Bool.false_ne_true r))
theorem FRc_ca {h h2 : MH} (a : Nat) (e : FRc h h2) : FRc h (ca h2 a) := fun c j n1 n2 n3 n4 n5 n6 n7 n8 n9 n10 => by
  unfold ca
  by_cases z : c = 1
  · subst z
    rw [up_i (fun y => n1 ⟨rfl, y⟩)]
    exact e _ _ n1 n2 n3 n4 n5 n6 n7 n8 n9 n10
  · rw [up_ne z]
    exact e _ _ n1 n2 n3 n4 n5 n6 n7 n8 n9 n10
/-- the reference's reader -/
def prG (j : Nat) : Prop := prF_ j ∨ j = 28 ∨ j = 29 ∨ j = 31 ∨ j = 0
def FRm (g g2 : MH) : Prop := ∀ c j, ¬ (c = 97 ∧ prG j) → c ≠ 103 → c ≠ 105 → c ≠ 107 → ¬ (c = 108 ∧ 256 ≤ j) → ¬ (c = 109 ∧ j = 4) → g2 c j = g c j
theorem FRm.tr {g g1 g2 : MH} (e : FRm g g1) (f : FRm g1 g2) : FRm g g2 := fun c j n1 n2 n3 n4 n5 n6 => by rw [f c j n1 n2 n3 n4 n5 n6, e c j n1 n2 n3 n4 n5 n6]
theorem FRm_th (g : MH) (v : Int) : FRm g (up g 97 0 v) := fun c j n1 n2 n3 n4 n5 n6 => by
  by_cases z : c = 97
  · subst z
    exact up_i (fun y => n1 ⟨rfl, Or.inr (Or.inr (Or.inr (Or.inr y)))⟩)
  · rw [up_ne z]
theorem prG_rel {j : Nat} (h : prG j) : relB 97 j = false := by
  unfold prG prF_ at h
  rcases h with (rfl | rfl | rfl | rfl | rfl | rfl | rfl | rfl | rfl) | rfl | rfl | rfl | rfl <;> rfl
theorem Inv_pl {b : Int} {g g2 : MH} (i : Inv0 b g) (e : ∀ a j, relB a j = true → ¬ (a = 108 ∧ 256 ≤ j) → ¬ (a = 109 ∧ j = 4) → g2 a j = g a j) : Inv0 b g2 := by
  obtain ⟨t1, t2, t3, t4, t5, t6, t7, t8⟩ := (Inv0_iff b g).mp i
  obtain ⟨l1, l2, l3, l4, l5, l6, l7⟩ := lg_n i
  have e1 : ∀ a, (∀ j, relB a j = true) → a ≠ 108 → a ≠ 109 → g2 a = g a := fun a h0 h1 h2 => funext fun j => e a j (h0 j) (by omega) (by omega)
  have e0 : ∀ a j, relB a j = true → a ≠ 108 → a ≠ 109 → g2 a j = g a j := fun a j r h1 h2 => e a j r (by omega) (by omega)
  have el : lgE g g2 := ⟨e0 _ _ rfl (by omega) (by omega), e0 _ _ rfl (by omega) (by omega)⟩
  refine (Inv0_iff b g2).mpr ⟨iTape_c ?_ ?_ ?_ ?_ t1, iDamp_c ?_ ?_ t2, iLg_c el ?_ ?_ ?_ ?_ ?_ ?_ ?_ ?_ t3, iNow_c el ?_ ?_ ?_ ?_ ?_ ?_ ?_ ?_ t4, iImg_c (Int.le_refl b) l4 l6 el ?_ ?_ ?_ ?_ ?_ t5, iGue_c el ?_ ?_ ?_ ?_ ?_ ?_ ?_ ?_ ?_ ?_ t6, ?_, iLw_c ?_ ?_ ?_ ?_ t8⟩
  all_goals first | (exact e0 _ _ rfl (by omega) (by omega)) | (exact e1 _ (fun _ => rfl) (by omega) (by omega)) | (intro j; exact e0 _ _ rfl (by omega) (by omega)) | skip
  · intro k hk
    exact e1 _ (fun j => rel_h j k hk) (by omega) (by omega)
  · obtain ⟨⟨p1, p2, p3⟩, p4⟩ := t7
    refine ⟨⟨by rw [e0 97 30 rfl (by omega) (by omega), e0 7 1 rfl (by omega) (by omega)]; exact p1, by rw [e0 7 1 rfl (by omega) (by omega)]; exact p2, by rw [e0 7 1 rfl (by omega) (by omega)]; exact p3⟩, fun k hk => ?_⟩
    rw [e0 7 1 rfl (by omega) (by omega)] at hk
    obtain ⟨q1, q2, q3⟩ := p4 k hk
    have es : g2 31 k = g 31 k := e0 _ _ rfl (by omega) (by omega)
    have er : g2 (33 + k) = g (33 + k) := e1 _ (fun j => rel_p j k (by omega)) (by omega) (by omega)
    rw [es, er, e 109 k rfl (by omega) (by omega)]
    refine ⟨q1, q2, fun n hn => ?_⟩
    obtain ⟨r1, r2⟩ := q3 n hn
    exact ⟨fun w hw => by rw [e 108 _ rfl (by omega) (by omega)]; exact r1 w hw, r2⟩
theorem FRm.X {b : Int} {Ws : Nat → WF} {h h2 : MH} (e : FRm h h2) (i : InvX b Ws h) : InvX b Ws h2 := by
  have e2 : ∀ a j, relB a j = true → ¬ (a = 108 ∧ 256 ≤ j) → ¬ (a = 109 ∧ j = 4) → h2 a j = h a j := by
    intro a j r n1 n2
    apply e a j _ _ _ _ n1 n2
    · intro z; obtain ⟨z1, z2⟩ := z; subst z1; rw [prG_rel z2] at r; cases r
    · intro z; subst z; exact Bool.false_ne_true r
    · intro z; subst z; exact Bool.false_ne_true r
    · intro z; subst z; exact Bool.false_ne_true r
  have eL : ∀ a j, relL a j = true → h2 a j = h a j := fun a j r => e2 a j (relL_B r) (fun z => by obtain ⟨z1, z2⟩ := z; subst z1; cases r) (fun z => by obtain ⟨z1, z2⟩ := z; subst z1; cases r)
  exact ⟨⟨Inv_pl i.1.1 e2, InvL_c (fun a j r _ _ => eL a j r) i.1.2⟩, InvA_c eL i.2⟩
theorem rd_league {b : Int} {h : MH} (i : Inv0 b h) {L : Nat} (hL : h 1 1 = L) (d : Nat) : ∃ h1, Run (d + 9) 5 0 [vR 3] [] h = some (some (.inl (flO (lgF (h 15) L 241 0 lsZ))), h1) ∧ FRc h h1 ∧ ∀ S, (lgF (h 15) L 241 0 lsZ).2 = some S → dfC S h1 ∧ lsB S ∧ whP S := by
  obtain ⟨L', e1, e2, e3, e4, e5⟩ := tp_n i
  have : L' = L := by omega
  subst this
  have t : TC (h 15) L' h := ⟨⟨e3, e1, fun j _ => rfl⟩, e4⟩
  obtain ⟨h2, a2, u1, u2, u3⟩ := e_leagueTape t d
  refine ⟨_, u1, FRc_ca a2 (fun c j n1 n2 n3 n4 n5 n6 n7 n8 n9 n10 => by rw [u2 c n3 n4 n5 n6 n7]), fun S hS => ?_⟩
  have lb := lg_b 241 0 lsZ S lsZ_b hS
  exact ⟨dfC_ca (u3 S hS) a2, lb.1, lb.2⟩
theorem rm_league {T : Nat → Int} {L : Nat} (x : txOK T L) (l : L ≤ 240) {g : MH} (g1 : g 97 6 = L) (g2 : ∀ j, j < L → g 98 j = T j) (d : Nat) : ∃ h2, Run (d + 9) 184 0 [vR 97, vU] [] g = some (none, h2) ∧ h2 97 11 = flO (lgF T L 241 0 lsZ) ∧ FRm g h2 ∧ ∀ S, (lgF T L 241 0 lsZ).2 = some S → dfM S h2 := by
  obtain ⟨G2, a2, u1, u2, u3⟩ := m_leagueText x l g1 g2 d
  refine ⟨_, u1, mg_fl _ _ _, fun c j n1 n2 n3 n4 n5 n6 => ?_, fun S hS => ?_⟩
  · by_cases z : c = 97
    · subst z
      have n : ¬ prG j := fun y => n1 ⟨rfl, y⟩
      unfold prG prF_ at n
      rw [mg_o _ _ _ (by omega) (by omega), u2.2 j (by omega) (by omega) (by omega), stM_f _ _ _ _ (by omega) (by omega) (by omega)]
    · rw [mg_ne _ _ _ z, u2.1 c z n2 n3 n4, stM_o _ _ _ _ z]
  · obtain ⟨s1, s2, s3, s4, s5, s6⟩ := u3 S hS
    exact ⟨by rw [mg_o _ _ _ (by omega) (by omega)]; exact s1, by rw [mg_o _ _ _ (by omega) (by omega)]; exact s2, by rw [mg_o _ _ _ (by omega) (by omega)]; exact s3, by rw [mg_ne _ _ _ (by omega)]; exact s4, by rw [mg_ne _ _ _ (by omega)]; exact s5, by rw [mg_ne _ _ _ (by omega)]; exact s6⟩
theorem rd_law {b : Int} {h : MH} (i : Inv0 b h) {L : Nat} (hL : h 1 1 = L) (d : Nat) : ∃ h1, Run (d + 24) 22 0 [vR 5, vU] [] h = some (some (.inl (flO (lwF (h 15) L 241 0))), h1) ∧ FRc h h1 ∧ ∀ es, (lwF (h 15) L 241 0).2 = some es → h1 5 1 = (((lcC 0 es).length : Nat) : Int) ∧ rdL (h1 22) 0 (lcC 0 es) ∧ (lcC 0 es).length ≤ 240 := by
  obtain ⟨L', e1, e2, e3, e4, e5⟩ := tp_n i
  have : L' = L := by omega
  subst this
  have t : TC (h 15) L' h := ⟨⟨e3, e1, fun j _ => rfl⟩, e4⟩
  obtain ⟨h2, a2, u1, u2, u3⟩ := e_lawTape t d
  refine ⟨_, u1, FRc_ca a2 (fun c j n1 n2 n3 n4 n5 n6 n7 n8 n9 n10 => by rw [u2.1 c n8 n9]), fun es hS => ?_⟩
  rw [ca_ne _ _ (by omega), ca_ne _ _ (by omega)]
  exact u3 es hS
theorem rm_law {T : Nat → Int} {L : Nat} (x : txOK T L) (l : L ≤ 240) {g : MH} (g2 : ∀ j, j < L → g 98 j = T j) (d : Nat) : ∃ h2, Run (d + 32) 199 0 [vR 97, vR 98, .inl 0, .inl (L : Int)] [] g = some (none, h2) ∧ h2 97 11 = flO (lwF T L 241 0) ∧ FRm g h2 := by
  obtain ⟨h2, u1, u2, u3, u4⟩ := m_goThrough98 l d (stM_T x l g2)
  exact ⟨h2, u1, u2, fun c j n1 n2 n3 n4 n5 n6 => u3 c j (fun z => n1 ⟨z.1, Or.inl z.2⟩)⟩
theorem rd_plan {b : Int} {h : MH} (i : Inv0 b h) {L : Nat} (hL : h 1 1 = L) (d : Nat) : ∃ h1, Run (d + 5) 38 0 [vR 7, vU] [] h = some (some (.inl (plnF (h 15) L 16 0).1), h1) ∧ FRc h h1 ∧ ((plnF (h 15) L 16 0).1 = -1 → h1 7 4 = ((plnF (h 15) L 16 0).2.length : Nat) ∧ rwL (h1 37) 0 (plnF (h 15) L 16 0).2) := by
  obtain ⟨L', e1, e2, e3, e4, e5⟩ := tp_n i
  have : L' = L := by omega
  subst this
  have t : TC (h 15) L' h := ⟨⟨e3, e1, fun j _ => rfl⟩, e4⟩
  obtain ⟨h2, a2, u1, u2, u3, u4, u5⟩ := e_readPlan (T := h 15) (L := L') d 16 0 0 h (by omega) (by omega) (by omega) t
  refine ⟨ca h2 a2, ?_, FRc_ca a2 (fun c j n1 n2 n3 n4 n5 n6 n7 n8 n9 n10 => ?_), fun z => ?_⟩
  · rw [q38_0]
    exact u1
  · by_cases z : c = 7
    · subst z
      exact u3 j (fun y => n2 ⟨rfl, y⟩)
    · rw [u2 c n10 z]
  · have := u5 z
    rw [Nat.zero_add] at this
    rw [ca_ne _ _ (by omega), ca_ne _ _ (by omega)]
    exact this
theorem rm_plan {T : Nat → Int} {L : Nat} (x : txOK T L) (l : L ≤ 240) {g : MH} (g1 : g 97 6 = L) (g2 : ∀ j, j < L → g 98 j = T j) (d : Nat) : ∃ h2, Run (d + 7) 213 0 [vR 97, vU, vU] [] g = some (none, h2) ∧ h2 97 11 = (plnF T L 16 0).1 ∧ FRm g h2 ∧ ((plnF T L 16 0).1 = -1 → h2 109 4 = ((plnF T L 16 0).2.length : Nat) ∧ rwL (h2 108) 256 (plnF T L 16 0).2) := by
  have t0 := stM_T (h := g) x l g2
  obtain ⟨G2, a2, u1, u2, u3, u4, u5⟩ := m_readPlan l d 16 0 0 (stM g 98 0 L) (by omega) (by omega) (by omega) t0
  have e1 : Run (d + 6) 185 0 [vR 97, vR 98, .inl 0, .inl (L : Int)] [] g = some (none, mg (stM g 98 0 (L : Int)) 0 (-1)) := q185_0 (d + 6) 0 L g
  refine ⟨mg G2 a2 (plnF T L 16 0).1, ?_, mg_fl _ _ _, fun c j n1 n2 n3 n4 n5 n6 => ?_, fun z => ?_⟩
  · rw [q213_0, g1, e1, cV_some]
    exact u1
  · by_cases z : c = 97
    · subst z
      have n : ¬ prG j := fun y => n1 ⟨rfl, y⟩
      unfold prG prF_ at n
      rw [mg_o _ _ _ (by omega) (by omega), u2 _ (by omega) (by omega), stM_f _ _ _ _ (by omega) (by omega) (by omega)]
    · rw [mg_ne _ _ _ z]
      by_cases z1 : c = 108
      · subst z1
        rw [u4 j (by omega), stM_o _ _ _ _ z]
      · by_cases z2 : c = 109
        · subst z2
          rw [u3 j (by omega), stM_o _ _ _ _ z]
        · rw [u2 c z1 z2, stM_o _ _ _ _ z]
  · have := u5 z
    rw [Nat.zero_add] at this
    rw [mg_ne _ _ _ (by omega), mg_ne _ _ _ (by omega)]
    exact this
theorem FRc.m {h h1 : MH} (e : FRc h h1) {c : Nat} (hc : 97 ≤ c) : h1 c = h c := funext fun j => e c j (by omega) (by omega) (by omega) (by omega) (by omega) (by omega) (by omega) (by omega) (by omega) (by omega)
/-- the reference's fault, of what it reads alone -/
theorem m_fault {T : Nat → Int} {L : Nat} (x : txOK T L) (l : L ≤ 240) {g : MH} (g1 : g 97 6 = L) (g2 : ∀ j, j < L → g 98 j = T j) (d : Nat) (s : Int) :
    ∃ v h2, Run (d + 33) 182 0 [vR 97, .inl s] [] g = some (some (.inl v), h2) ∧ FRm g h2 ∧ (v = if s = 0 then flO (lgF T L 241 0 lsZ) else if s = 1 then flO (lwF T L 241 0) else if s = 2 then (plnF T L 16 0).1 else -2) ∧ (s = 0 → ∀ S, (lgF T L 241 0 lsZ).2 = some S → dfM S h2) ∧ (s = 2 → (plnF T L 16 0).1 = -1 → h2 109 4 = ((plnF T L 16 0).2.length : Nat) ∧ rwL (h2 108) 256 (plnF T L 16 0).2) := by
  have f0 := FRm_th g 0
  have g1' : up g 97 0 0 97 6 = L := by rw [up_i (by omega)]; exact g1
  have g2' : ∀ j, j < L → up g 97 0 0 98 j = T j := by rw [up_ne (by omega)]; exact g2
  have hd := q182_0 (d + 32) s g
  rw [m_isIn, cI_some] at hd
  by_cases q : 0 ≤ s ∧ s ≤ 2
  · rw [bi_t q, if_pos (by omega)] at hd
    by_cases s0 : s = 0
    · subst s0
      obtain ⟨h2, u1, u2, u3, u4⟩ := rm_league x l g1' g2' (d + 23)
      rw [if_neg (fun z => z rfl), u1, cV_some, q182_28, if_pos (by omega), if_pos (by omega)] at hd
      exact ⟨_, h2, hd, f0.tr u3, by rw [if_pos rfl]; exact u2, fun _ => u4, fun z => by omega⟩
    · rw [if_pos s0, q182_28] at hd
      by_cases s1 : s = 1
      · subst s1
        obtain ⟨h2, u1, u2, u3⟩ := rm_law x l g2' d
        rw [if_neg (fun z => z rfl), g1', u1, cV_some, if_pos (by omega)] at hd
        exact ⟨_, h2, hd, f0.tr u3, by rw [if_neg (by omega), if_pos rfl]; exact u2, fun z => by omega, fun z => by omega⟩
      · have s2 : s = 2 := by omega
        subst s2
        obtain ⟨h2, u1, u2, u3, u4⟩ := rm_plan x l g1' g2' (d + 25)
        rw [if_pos (by omega), if_neg (fun z => z rfl), u1, cV_some] at hd
        exact ⟨_, h2, hd, f0.tr u3, by rw [if_neg (by omega), if_neg (by omega), if_pos rfl]; exact u2, fun z => by omega, fun _ => u4⟩
  · rw [bi_f q, if_neg (fun z => z rfl)] at hd
    exact ⟨_, _, hd, f0, by rw [if_neg (by omega), if_neg (by omega), if_neg (by omega)], fun z => by omega, fun z => by omega⟩
theorem c_fault {b : Int} {Ws : Nat → WF} {h : MH} (i : InvX b Ws h) (s : Int) : PrX b b Ws 4 182 [vR 0, .inl s] [vR 97, .inl s] h := by
  obtain ⟨L, e1, e2, e3, e4, e5⟩ := tp_n i.1.1
  have hd := q4_0 39 s h
  have fin : ∀ (h1 : MH) (v : Int), Run 40 4 0 [vR 0, .inl s] [] h = some (some (.inl v), h1) → FRc h h1 → (v = if s = 0 then flO (lgF (h 15) L 241 0 lsZ) else if s = 1 then flO (lwF (h 15) L 241 0) else if s = 2 then (plnF (h 15) L 16 0).1 else -2) → PrX b b Ws 4 182 [vR 0, .inl s] [vR 97, .inl s] h := by
    intro h1 v q1 q2 q3
    obtain ⟨v', h2, u1, u2, u3, -, -⟩ := m_fault (T := h 15) (L := L) e4 e3 (g := h1) (by rw [q2.m (by omega)]; exact e2) (by rw [q2.m (by omega)]; exact e5) 7 s
    have : v' = v := by rw [u3, q3]
    subst this
    exact ⟨v', h1, h2, q1, u1, u2.X (q2.V.X i)⟩
  by_cases s0 : s = 0
  · subst s0
    obtain ⟨h1, u1, u2, -⟩ := rd_league i.1.1 e1 30
    rw [if_pos rfl, u1, cI_some] at hd
    exact fin h1 _ hd u2 (by rw [if_pos rfl])
  · rw [if_neg s0] at hd
    by_cases s1 : s = 1
    · subst s1
      obtain ⟨h1, u1, u2, -⟩ := rd_law i.1.1 e1 15
      rw [if_pos rfl, u1, cI_some] at hd
      exact fin h1 _ hd u2 (by rw [if_neg (by omega), if_pos rfl])
    · rw [if_neg s1] at hd
      by_cases s2 : s = 2
      · subst s2
        obtain ⟨h1, u1, u2, -⟩ := rd_plan i.1.1 e1 34
        rw [if_pos rfl, u1, cI_some] at hd
        exact fin h1 _ hd u2 (by rw [if_neg (by omega), if_neg (by omega), if_pos rfl])
      · rw [if_neg s2] at hd
        exact fin h _ hd (fun _ _ _ _ _ _ _ _ _ _ _ _ => rfl) (by rw [if_neg s0, if_neg s1, if_neg s2])
