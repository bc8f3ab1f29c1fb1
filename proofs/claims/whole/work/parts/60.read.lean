/-! reading a text: T its bytes, L how many -/
def skN (T : Nat → Int) (L : Nat) : Nat → Nat → Nat
  | 0, a => a
  | r + 1, a => if a < L ∧ T a = 32 then skN T L r (a + 1) else a
/-- behind blanks -/
def skF (T : Nat → Int) (L a : Nat) : Nat := skN T L (L - a) a
theorem skN_le (T : Nat → Int) (L : Nat) : ∀ r a, a ≤ skN T L r a
  | 0, _ => Nat.le_refl _
  | r + 1, a => by
    unfold skN
    split
    · have := skN_le T L r (a + 1); omega
    · exact Nat.le_refl _
theorem skN_L (T : Nat → Int) (L : Nat) : ∀ r a, a ≤ L → skN T L r a ≤ L
  | 0, _, h => h
  | r + 1, a, h => by
    unfold skN
    split
    · exact skN_L T L r (a + 1) (by omega)
    · exact h
theorem skN_ne (T : Nat → Int) (L : Nat) : ∀ r a, a + r = L → skN T L r a < L → T (skN T L r a) ≠ 32
  | 0, a, h, h2 => absurd h2 (by unfold skN; omega)
  | r + 1, a, h, h2 => by
    unfold skN at h2 ⊢
    by_cases q : a < L ∧ T a = 32
    · rw [if_pos q] at h2 ⊢
      exact skN_ne T L r (a + 1) (by omega) h2
    · rw [if_neg q] at h2 ⊢
      exact fun z => q ⟨h2, z⟩
theorem sk_le (T : Nat → Int) (L a : Nat) : a ≤ skF T L a := skN_le T L _ a
theorem sk_L {T : Nat → Int} {L a : Nat} (h : a ≤ L) : skF T L a ≤ L := skN_L T L _ a h
theorem sk_ne {T : Nat → Int} {L a : Nat} (h : a ≤ L) (h2 : skF T L a < L) : T (skF T L a) ≠ 32 := skN_ne T L _ a (by omega) h2
theorem sk_id {T : Nat → Int} {L a : Nat} (h : ¬ (a < L ∧ T a = 32)) : skF T L a = a := by
  unfold skF
  cases q : L - a with
  | zero => rfl
  | succ r => unfold skN; rw [if_neg h]
theorem sk_st {T : Nat → Int} {L a : Nat} (h : a < L ∧ T a = 32) : skF T L a = skF T L (a + 1) := by
  unfold skF
  rw [show L - a = (L - (a + 1)) + 1 by omega]
  show (if a < L ∧ T a = 32 then skN T L (L - (a + 1)) (a + 1) else a) = _
  rw [if_pos h]
theorem sk_sk {T : Nat → Int} {L a : Nat} (h : a ≤ L) : skF T L (skF T L a) = skF T L a := sk_id fun z => sk_ne h z.1 z.2
def txOK (T : Nat → Int) (L : Nat) : Prop := ∀ j, j < L → T j ≠ 0 ∧ -128 ≤ T j ∧ T j ≤ 127
theorem up_same (h : MH) (a j : Nat) : up h a j (h a j) = h := by
  funext x y
  by_cases q : x = a
  · subst q
    by_cases q2 : y = j
    · subst q2; rw [up_s]
    · rw [up_i q2]
  · rw [up_a q]
theorem up_twice (h : MH) (a j : Nat) (v w : Int) : up (up h a j v) a j w = up h a j w := by
  funext x y
  by_cases q : x = a
  · subst q
    by_cases q2 : y = j
    · subst q2; rw [up_s, up_s]
    · rw [up_i q2, up_i q2, up_i q2]
  · rw [up_a q, up_a q, up_a q]
theorem up_comm (h : MH) {a j a2 j2 : Nat} (v w : Int) (n : ¬ (a = a2 ∧ j = j2)) : up (up h a j v) a2 j2 w = up (up h a2 j2 w) a j v := by
  funext x y
  by_cases q : x = a
  · subst q
    by_cases q2 : y = j
    · subst q2
      rw [up_s]
      by_cases z : x = a2
      · subst z
        rw [up_i (fun z2 => n ⟨rfl, z2⟩), up_s]
      · rw [up_a z, up_s]
    · rw [up_i q2]
      by_cases z : x = a2
      · subst z
        by_cases z2 : y = j2
        · subst z2; rw [up_s, up_s]
        · rw [up_i z2, up_i z2, up_i q2]
      · rw [up_a z, up_a z, up_i q2]
  · rw [up_a q]
    by_cases z : x = a2
    · subst z
      by_cases z2 : y = j2
      · subst z2; rw [up_s, up_s]
      · rw [up_i z2, up_i z2, up_a q]
    · rw [up_a z, up_a z, up_a q]
/-! the class' tape -/
def ca (h : MH) (a : Nat) : MH := up h 1 2 (a : Int)
theorem ca_ca (h : MH) (a b : Nat) : ca (ca h a) b = ca h b := up_twice _ _ _ _ _
theorem ca_at (h : MH) (a : Nat) : ca h a 1 2 = a := up_s _ _ _ _
theorem ca_ne (h : MH) (a : Nat) {c : Nat} (e : c ≠ 1) : ca h a c = h c := up_ne e
theorem ca_f (h : MH) (a : Nat) {j : Nat} (e : j ≠ 2) : ca h a 1 j = h 1 j := up_i e
def TC (T : Nat → Int) (L : Nat) (h : MH) : Prop := (L ≤ 240 ∧ h 1 1 = L ∧ ∀ j, j < L → h 15 j = T j) ∧ txOK T L
theorem TC.mv {T : Nat → Int} {L : Nat} {h h2 : MH} (t : TC T L h) (e1 : h2 1 1 = h 1 1) (e2 : h2 15 = h 15) : TC T L h2 := ⟨⟨t.1.1, by rw [e1]; exact t.1.2.1, by rw [e2]; exact t.1.2.2⟩, t.2⟩
def ngF (T : Nat → Int) (L p : Nat) : Int := if p < L then T p else 0
theorem e_next {T : Nat → Int} {L : Nat} {h : MH} (t : TC T L h) (d : Nat) : ∀ (r a : Nat), a ≤ L → L - a = r → Run d 8 0 [vR 1] [] (ca h a) = some (some (.inl (ngF T L (skF T L a))), ca h (skF T L a)) := by
  obtain ⟨⟨t0, t1, t2⟩, t3⟩ := t
  intro r
  induction r with
  | zero =>
    intro a ha hr
    have : a = L := by omega
    subst this
    rw [sk_id (by omega), q8_0, ca_at, ca_f h a (by omega), t1, if_pos (by omega), if_pos (by omega)]
    unfold ngF
    rw [if_neg (by omega)]
  | succ r ih =>
    intro a ha hr
    by_cases q : T a = 32
    · rw [sk_st ⟨by omega, q⟩, ← ih (a + 1) (by omega) (by omega), q8_0, ca_at, ca_f h a (by omega), t1, if_neg (by omega), if_pos (by omega), ca_ne h a (by omega), show ((a : Nat) : Int).toNat = a by omega, t2 a (by omega), if_neg (fun z => z q), wI_ok (by omega) (by omega)]
      have : up (ca h a) 1 2 ((a : Int) + 1) = ca h (a + 1) := ca_ca h a (a + 1)
      rw [this]
    · rw [sk_id (fun z => q z.2), q8_0, ca_at, ca_f h a (by omega), t1, if_neg (by omega), if_pos (by omega), ca_ne h a (by omega), show ((a : Nat) : Int).toNat = a by omega, t2 a (by omega), if_pos q, if_neg (by omega), if_pos (by omega)]
      unfold ngF
      rw [if_pos (by omega)]
theorem e_nextT {T : Nat → Int} {L : Nat} {h : MH} (t : TC T L h) (d : Nat) {a : Nat} (ha : a ≤ L) : Run d 8 0 [vR 1] [] (ca h a) = some (some (.inl (ngF T L (skF T L a))), ca h (skF T L a)) := e_next t d (L - a) a ha rfl
/-- a sign stands there -/
abbrev sgF (T : Nat → Int) (L p : Nat) (s : Int) : Prop := p < L ∧ T p = s
theorem ng_sg {T : Nat → Int} {L p : Nat} {s : Int} (hs : s ≠ 0) : ngF T L p = s ↔ sgF T L p s := by
  unfold ngF sgF
  by_cases q : p < L
  · rw [if_pos q]
    exact ⟨fun z => ⟨q, z⟩, fun z => z.2⟩
  · rw [if_neg q]
    exact ⟨fun z => absurd z.symm hs, fun z => absurd z.1 q⟩
theorem ng_end {T : Nat → Int} {L p : Nat} (x : txOK T L) : ngF T L p = 0 ↔ ¬ p < L := by
  unfold ngF
  by_cases q : p < L
  · rw [if_pos q]
    exact ⟨fun z => absurd z (x p q).1, fun z => absurd q z⟩
  · rw [if_neg q]
    exact ⟨fun _ => q, fun _ => rfl⟩
theorem e_take {T : Nat → Int} {L : Nat} {h : MH} (t : TC T L h) (d : Nat) {a : Nat} (ha : a ≤ L) {s : Int} (hs : s ≠ 0) : Run (d + 1) 21 0 [vR 1, .inl s] [] (ca h a) = some (some (.inl (bi (sgF T L (skF T L a) s))), ca h (if sgF T L (skF T L a) s then skF T L a + 1 else skF T L a)) := by
  have l := sk_L (T := T) ha
  have l2 := t.1.1
  rw [q21_0, e_nextT t d ha, cI_some]
  by_cases q : sgF T L (skF T L a) s
  · rw [if_pos ((ng_sg hs).2 q), bi_t q, if_pos q, ca_at, wI_ok (by omega) (by omega)]
    have : up (ca h (skF T L a)) 1 2 ((skF T L a : Int) + 1) = ca h (skF T L a + 1) := ca_ca h _ (skF T L a + 1)
    rw [this]
  · rw [if_neg (fun z => q ((ng_sg hs).1 z)), bi_f q, if_neg q]
/-- one digit behind blanks -/
abbrev dgP (T : Nat → Int) (L p : Nat) (m : Int) : Prop := p < L ∧ 48 ≤ T p ∧ T p ≤ 48 + m
theorem e_digit {T : Nat → Int} {L : Nat} {h : MH} (t : TC T L h) (d : Nat) {a : Nat} (ha : a ≤ L) {m : Int} (hm : 0 ≤ m ∧ m ≤ 9) : Run (d + 1) 42 0 [vR 1, .inl m, vU] [] (ca h a) = some (some (.inl (if dgP T L (skF T L a) m then T (skF T L a) - 48 else -1)), ca h (if dgP T L (skF T L a) m then skF T L a + 1 else skF T L a)) := by
  have l := sk_L (T := T) ha
  have l2 := t.1.1
  rw [q42_0, e_nextT t d ha, cI_some]
  unfold ngF
  by_cases q0 : skF T L a < L
  · have b := t.2 _ q0
    rw [if_pos q0, wI_ok (x := T (skF T L a) - 48) (by omega) (by omega)]
    by_cases q1 : T (skF T L a) - 48 < 0
    · rw [if_pos q1, if_neg (fun z => by unfold dgP at z; omega), if_neg (fun z => by unfold dgP at z; omega)]
    · rw [if_neg q1]
      by_cases q2 : T (skF T L a) - 48 ≤ m
      · have q : dgP T L (skF T L a) m := ⟨q0, by omega, by omega⟩
        rw [if_pos q2, if_pos q, if_pos q, ca_at, wI_ok (by omega) (by omega)]
        have : up (ca h (skF T L a)) 1 2 ((skF T L a : Int) + 1) = ca h (skF T L a + 1) := ca_ca h _ (skF T L a + 1)
        rw [this]
      · rw [if_neg q2, if_neg (fun z => by unfold dgP at z; omega), if_neg (fun z => by unfold dgP at z; omega)]
  · rw [if_neg q0, wI_ok (by omega) (by omega), if_pos (by omega), if_neg (fun z => q0 z.1), if_neg (fun z => q0 z.1)]
/-! the reference's reader -/
def mg (G : MH) (a : Nat) (f : Int) : MH := up (up G 97 10 (a : Int)) 97 11 f
theorem mg_at (G : MH) (a : Nat) (f : Int) : mg G a f 97 10 = a := by unfold mg; rw [up_i (by omega), up_s]
theorem mg_fl (G : MH) (a : Nat) (f : Int) : mg G a f 97 11 = f := up_s _ _ _ _
theorem mg_o (G : MH) (a : Nat) (f : Int) {j : Nat} (e1 : j ≠ 10) (e2 : j ≠ 11) : mg G a f 97 j = G 97 j := by unfold mg; rw [up_i e2, up_i e1]
theorem mg_ne (G : MH) (a : Nat) (f : Int) {c : Nat} (e : c ≠ 97) : mg G a f c = G c := by unfold mg; rw [up_ne e, up_ne e]
theorem mg_a (G : MH) (a b : Nat) (f : Int) : up (mg G a f) 97 10 (b : Int) = mg G b f := by
  unfold mg
  rw [up_comm _ _ _ (by omega), up_twice]
theorem mg_f (G : MH) (a : Nat) (f g : Int) : up (mg G a f) 97 11 g = mg G a g := up_twice _ _ _ _ _
def RT (T : Nat → Int) (L : Nat) (G : MH) : Prop := (∃ c bg : Nat, ((c = 98 ∧ bg + L ≤ 240) ∨ (c = 99 ∧ bg + L ≤ 960)) ∧ G 97 5 = c ∧ G 97 8 = bg ∧ G 97 9 = L ∧ ∀ j, j < L → G c (bg + j) = T j) ∧ txOK T L
theorem RT.mv {T : Nat → Int} {L : Nat} {G G2 : MH} (r : RT T L G) (e1 : G2 97 5 = G 97 5) (e2 : G2 97 8 = G 97 8) (e3 : G2 97 9 = G 97 9) (e4 : G2 98 = G 98) (e5 : G2 99 = G 99) : RT T L G2 := by
  obtain ⟨⟨c, bg, h1, h2, h3, h4, h5⟩, h6⟩ := r
  refine ⟨⟨c, bg, h1, by rw [e1, h2], by rw [e2, h3], by rw [e3, h4], fun j hj => ?_⟩, h6⟩
  rcases h1 with ⟨rfl, -⟩ | ⟨rfl, -⟩
  · rw [e4]; exact h5 j hj
  · rw [e5]; exact h5 j hj
def l8F (x : Int) : Int := if x < 0 then x + 256 else x
theorem and255 {x : Int} (h0 : -128 ≤ x) (h1 : x ≤ 127) : iAnd x 255 = l8F x := by
  have key : ∀ k : Fin 256, iAnd ((k : Nat) - 128 : Int) 255 = l8F ((k : Nat) - 128 : Int) := by decide +kernel
  have := key ⟨(x + 128).toNat, by omega⟩
  have e : ((((⟨(x + 128).toNat, by omega⟩ : Fin 256) : Nat) : Int) - 128) = x := by
    show (((x + 128).toNat : Nat) : Int) - 128 = x
    omega
  rw [e] at this
  exact this
def lkG (T : Nat → Int) (L p : Nat) : Int := if p < L then l8F (T p) else -1
theorem lk_sg {T : Nat → Int} {L p : Nat} (x : txOK T L) {s : Int} (hs : 0 ≤ s) (hs2 : s ≤ 127) : lkG T L p = s ↔ sgF T L p s := by
  unfold lkG sgF l8F
  by_cases q : p < L
  · have := x p q
    rw [if_pos q]
    split <;> omega
  · rw [if_neg q]
    omega
theorem lk_end {T : Nat → Int} {L p : Nat} (x : txOK T L) : lkG T L p = -1 ↔ ¬ p < L := by
  unfold lkG l8F
  by_cases q : p < L
  · have := x p q
    rw [if_pos q]
    split <;> omega
  · rw [if_neg q]
    omega
theorem m_look0 {T : Nat → Int} {L : Nat} {G : MH} (r : RT T L G) (d : Nat) {a : Nat} (f : Int) (ha : a ≤ L) : Run d 188 0 [vR 97] [] (mg G a f) = if a < L ∧ T a = 32 then Run d 188 0 [vR 97] [] (mg G (a + 1) f) else some (some (.inl (lkG T L a)), mg G a f) := by
  obtain ⟨⟨c, bg, h1, h2, h3, h4, h5⟩, h6⟩ := r
  have g2 := (mg_o G a f (j := 5) (by omega) (by omega)).trans h2
  have g3 := (mg_o G a f (j := 8) (by omega) (by omega)).trans h3
  have g4 := (mg_o G a f (j := 9) (by omega) (by omega)).trans h4
  by_cases q : a < L
  · have e5 := h5 a q
    have b := h6 a q
    have nx : up (mg G a f) 97 10 ((a : Int) + 1) = mg G (a + 1) f := mg_a G a (a + 1) f
    have lk : lkG T L a = iAnd (T a) 255 := by rw [and255 b.2.1 b.2.2]; unfold lkG; rw [if_pos q]
    rcases h1 with ⟨rfl, h1⟩ | ⟨rfl, h1⟩
    · have g5 : mg G a f 98 (bg + a) = T a := by rw [mg_ne G a f (by omega)]; exact e5
      rw [q188_0, mg_at, g4, g2, g3, if_neg (by omega), if_pos (by omega), wI_ok (x := (bg : Int) + a) (by omega) (by omega), if_pos (by omega), show ((bg : Int) + a).toNat = bg + a by omega, g5]
      by_cases q2 : T a = 32
      · rw [if_neg (fun z => z q2), if_pos ⟨q, q2⟩, wI_ok (by omega) (by omega), nx]
      · rw [if_pos q2, if_neg (fun z => q2 z.2), q188_43, mg_at, g4, g2, g3, if_neg (by omega), if_pos (by omega), wI_ok (x := (bg : Int) + a) (by omega) (by omega), if_pos (by omega), show ((bg : Int) + a).toNat = bg + a by omega, g5, lk]
    · have g5 : mg G a f 99 (bg + a) = T a := by rw [mg_ne G a f (by omega)]; exact e5
      rw [q188_0, mg_at, g4, g2, g3, if_neg (by omega), if_neg (by omega), if_pos (by omega), wI_ok (x := (bg : Int) + a) (by omega) (by omega), if_pos (by omega), show ((bg : Int) + a).toNat = bg + a by omega, g5]
      by_cases q2 : T a = 32
      · rw [if_neg (fun z => z q2), if_pos ⟨q, q2⟩, wI_ok (by omega) (by omega), nx]
      · rw [if_pos q2, if_neg (fun z => q2 z.2), q188_43, mg_at, g4, g2, g3, if_neg (by omega), if_neg (by omega), if_pos (by omega), wI_ok (x := (bg : Int) + a) (by omega) (by omega), if_pos (by omega), show ((bg : Int) + a).toNat = bg + a by omega, g5, lk]
  · rw [q188_0, mg_at, g4, if_pos (by omega), if_neg (fun z => q z.1), q188_43, mg_at, g4, if_pos (by omega)]
    unfold lkG
    rw [if_neg q]
theorem m_look {T : Nat → Int} {L : Nat} {G : MH} (r : RT T L G) (d : Nat) {a : Nat} (f : Int) (ha : a ≤ L) : Run d 188 0 [vR 97] [] (mg G a f) = some (some (.inl (lkG T L (skF T L a))), mg G (skF T L a) f) := by
  have key : ∀ (k a : Nat), a ≤ L → L - a = k → Run d 188 0 [vR 97] [] (mg G a f) = some (some (.inl (lkG T L (skF T L a))), mg G (skF T L a) f) := by
    intro k
    induction k with
    | zero =>
      intro a ha hk
      rw [m_look0 r d f ha, if_neg (by omega), sk_id (by omega)]
    | succ k ih =>
      intro a ha hk
      rw [m_look0 r d f ha]
      by_cases q : a < L ∧ T a = 32
      · rw [if_pos q, sk_st q]
        exact ih (a + 1) (by omega) (by omega)
      · rw [if_neg q, sk_id q]
  exact key (L - a) a ha rfl
theorem m_fails (G : MH) (d a : Nat) (f : Int) : Run d 189 0 [vR 97] [] (mg G a f) = some (some (.inl 0), mg G a (if f = -1 then (a : Int) else f)) := by
  rw [q189_0, mg_fl, mg_at, mg_f]
  by_cases q : f = -1
  · rw [if_neg (fun z => z q), if_pos q]
  · rw [if_pos q, if_neg q]
theorem m_isDigit {T : Nat → Int} {L : Nat} {G : MH} (r : RT T L G) (d : Nat) {a : Nat} (f : Int) (ha : a ≤ L) : Run d 196 0 [vR 97] [] (mg G a f) = some (some (.inl (bi (dgP T L a 9))), mg G a f) := by
  obtain ⟨⟨c, bg, h1, h2, h3, h4, h5⟩, h6⟩ := r
  have g2 := (mg_o G a f (j := 5) (by omega) (by omega)).trans h2
  have g3 := (mg_o G a f (j := 8) (by omega) (by omega)).trans h3
  have g4 := (mg_o G a f (j := 9) (by omega) (by omega)).trans h4
  by_cases q : a < L
  · have e5 := h5 a q
    rcases h1 with ⟨rfl, h1⟩ | ⟨rfl, h1⟩
    · have g5 : mg G a f 98 (bg + a) = T a := by rw [mg_ne G a f (by omega)]; exact e5
      rw [q196_0, mg_at, g4, g2, g3, if_neg (by omega), if_pos (by omega), wI_ok (x := (bg : Int) + a) (by omega) (by omega), if_pos (by omega), show ((bg : Int) + a).toNat = bg + a by omega, g5]
      by_cases q2 : T a < 48
      · rw [if_pos q2, bi_f (fun z => by unfold dgP at z; omega)]
      · rw [if_neg q2, if_pos (by omega), if_pos (by omega)]
        by_cases q3 : 57 < T a
        · rw [if_pos q3, bi_f (fun z => by unfold dgP at z; omega)]
        · rw [if_neg q3, bi_t ⟨q, by omega, by omega⟩]
    · have g5 : mg G a f 99 (bg + a) = T a := by rw [mg_ne G a f (by omega)]; exact e5
      rw [q196_0, mg_at, g4, g2, g3, if_neg (by omega), if_neg (by omega), if_pos (by omega), wI_ok (x := (bg : Int) + a) (by omega) (by omega), if_pos (by omega), show ((bg : Int) + a).toNat = bg + a by omega, g5]
      by_cases q2 : T a < 48
      · rw [if_pos q2, bi_f (fun z => by unfold dgP at z; omega)]
      · rw [if_neg q2, if_neg (by omega), if_pos (by omega), if_pos (by omega)]
        by_cases q3 : 57 < T a
        · rw [if_pos q3, bi_f (fun z => by unfold dgP at z; omega)]
        · rw [if_neg q3, bi_t ⟨q, by omega, by omega⟩]
  · rw [q196_0, mg_at, g4, if_pos (by omega), bi_f (fun z => q z.1)]
theorem m_digit {T : Nat → Int} {L : Nat} {G : MH} (r : RT T L G) (L9 : L ≤ 960) (d : Nat) {a : Nat} (ha : a ≤ L) {m : Int} (hm : 0 ≤ m ∧ m ≤ 9) : Run (d + 1) 215 0 [vR 97, .inl m, vU] [] (mg G a (-1)) = some (some (.inl (if dgP T L (skF T L a) m then T (skF T L a) - 48 else 0)), if dgP T L (skF T L a) m then mg G (skF T L a + 1) (-1) else mg G (skF T L a) (skF T L a)) := by
  have l := sk_L (T := T) ha
  rw [q215_0, m_look r d _ ha, cI_some, m_isDigit r d _ l, cI_some]
  by_cases q : dgP T L (skF T L a) 9
  · obtain ⟨q0, q1, q2⟩ := id q
    have e : lkG T L (skF T L a) = T (skF T L a) := by unfold lkG l8F; rw [if_pos q0, if_neg (by omega)]
    rw [bi_t q, if_neg (by omega), e, wI_ok (x := T (skF T L a) - 48) (by omega) (by omega)]
    by_cases q3 : T (skF T L a) - 48 ≤ m
    · have q4 : dgP T L (skF T L a) m := ⟨q0, q1, by omega⟩
      rw [if_pos q3, if_pos q4, if_pos q4, mg_at, wI_ok (by omega) (by omega)]
      have : up (mg G (skF T L a) (-1)) 97 10 ((skF T L a : Int) + 1) = mg G (skF T L a + 1) (-1) := mg_a G _ (skF T L a + 1) (-1)
      rw [this]
    · rw [if_neg q3, m_fails, cI_some, if_pos rfl, if_neg (fun z => by unfold dgP at z; omega), if_neg (fun z => by unfold dgP at z; omega)]
  · rw [bi_f q, if_pos rfl, m_fails, cI_some, if_pos rfl, if_neg (fun z => q (by unfold dgP at z ⊢; omega)), if_neg (fun z => q (by unfold dgP at z ⊢; omega))]
