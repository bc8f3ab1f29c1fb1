/-! class and reference, each followed by a picture of its cells -/
def relF (a j : Nat) : Bool := match a with
  | 2 => j == 3 || j == 4
  | 16 => true
  | 17 => true
  | 18 => true
  | 6 => j == 1 || j == 2
  | 25 => true
  | 26 => true
  | 27 => true
  | 28 => true
  | 29 => true
  | 97 => j == 26 || j == 27 || j == 34 || j == 7
  | 102 => true
  | 104 => true
  | 106 => true
  | 99 => true
  | 100 => true
  | 31 => true
  | 33 => true
  | 34 => true
  | 35 => true
  | 36 => true
  | 108 => true
  | 109 => true
  | _ => false
def SF (h H : MH) : Prop := ∀ a j, relF a j = true → H a j = h a j
theorem SF.rf (h : MH) : SF h h := fun _ _ _ => rfl
theorem relF_B {a j : Nat} (h : relF a j = true) : relB a j = true := by
  unfold relF at h
  split at h <;> first | exact absurd h (by decide) | rfl | skip
  all_goals (simp only [beq_iff_eq, Bool.or_eq_true] at h; unfold relB; simp [h])
  all_goals omega
theorem relL_F {a j : Nat} (h : relL a j = true) (h1 : a ≠ 38) (h2 : a ≠ 39) : relF a j = true := by
  unfold relL at h
  split at h <;> first | exact absurd h (by decide) | rfl | exact absurd rfl h1 | exact absurd rfl h2 | skip
  all_goals (simp only [beq_iff_eq, Bool.or_eq_true] at h; unfold relF; simp [h])
theorem SF.F {Ws : Nat → WF} {h H : MH} (e : SF h H) (i : InvF Ws h) : InvF Ws H := by
  have e1 : ∀ a, (∀ j, relF a j = true) → H a = h a := fun a q => funext fun j => e a j (q j)
  refine ⟨iLg_c ⟨e _ _ rfl, e _ _ rfl⟩ (e _ _ rfl) (e _ _ rfl) (e1 _ (fun _ => rfl)) (e1 _ (fun _ => rfl)) (e1 _ (fun _ => rfl)) (e1 _ (fun _ => rfl)) (e1 _ (fun _ => rfl)) (e1 _ (fun _ => rfl)) i.1, iLw_c (e _ _ rfl) (e _ _ rfl) (e _ _ rfl) (e _ _ rfl) i.2.1, InvL_c (fun a j r h1 h2 => e a j (relL_F r h1 h2)) i.2.2⟩
theorem SF.dat {h H : MH} (e : SF h H) : H 6 2 = h 6 2 ∧ H 17 = h 17 ∧ H 18 = h 18 ∧ H 2 3 = h 2 3 ∧ H 2 4 = h 2 4 ∧ H 16 = h 16 ∧ H 97 26 = h 97 26 ∧ H 97 27 = h 97 27 ∧ H 102 = h 102 :=
  ⟨e _ _ rfl, funext fun j => e _ _ rfl, funext fun j => e _ _ rfl, e _ _ rfl, e _ _ rfl, funext fun j => e _ _ rfl, e _ _ rfl, e _ _ rfl, funext fun j => e _ _ rfl⟩
def CS (hc H : MH) : Prop := ∀ a j, relB a j = true → a < 97 → H a j = hc a j
def MS (hm H : MH) : Prop := ∀ a j, relB a j = true → ¬ a < 97 → H a j = hm a j
def Kc (H H2 : MH) : Prop := ∀ a, ¬ a < 97 → H2 a = H a
def Km (H H2 : MH) : Prop := ∀ a, a < 97 → H2 a = H a
theorem Kc.tr {h h1 h2 : MH} (e : Kc h h1) (f : Kc h1 h2) : Kc h h2 := fun a n => (f a n).trans (e a n)
theorem Km.tr {h h1 h2 : MH} (e : Km h h1) (f : Km h1 h2) : Km h h2 := fun a n => (f a n).trans (e a n)
theorem PrX_S {b b2 : Int} {Ws : Nat → WF} {kc km : Nat} {ac am : List MV} {h hc hm H1 H2 : MH} {v : Int} (i : InvX b Ws h) (q1 : Run 40 kc 0 ac [] h = some (some (.inl v), H1)) (c1 : CS hc H1) (q2 : Run 40 km 0 am [] H1 = some (some (.inl v), H2)) (m2 : MS hm H2) (k2 : Km H1 H2) (inv : Inv0 b2 (mix hc hm)) (rl : resL (mix hc hm) = resL h) : PrX b b2 Ws kc km ac am h := by
  have e : Eqv (mix hc hm) H2 := by
    intro a j r
    by_cases z : a < 97
    · rw [mix_c z, k2 a z]; exact c1 a j r z
    · rw [mix_m z]; exact m2 a j r z
  refine ⟨v, H1, H2, q1, q2, ⟨e.inv inv, InvL_c (fun a j r _ _ => ?_) i.1.2⟩, InvA_c (fun a j r => ?_) i.2⟩
  · rw [e a j (relL_B r), resL_pt rl r]
  · rw [e a j (relL_B r), resL_pt rl r]
theorem CS_keep {hc H : MH} (e : CS hc H) (h0 : 0 ≤ hc 11 2) (h40 : hc 11 2 < 40) : CS (keepC hc) (keepC H) := by
  have t : H 11 2 = hc 11 2 := e _ _ rfl (by omega)
  have n : H 11 0 = hc 11 0 := e _ _ rfl (by omega)
  intro a j r ha
  unfold keepC
  rw [t, n]
  by_cases z : a = 11
  · subst z
    by_cases z1 : j = 0
    · subst z1; rw [up_s, up_s]
    · rw [up_i z1, up_i z1]
      by_cases z2 : j = 2
      · subst z2; rw [up_s, up_s]
      · rw [up_i z2, up_i z2, cpy_ne (by omega), cpy_ne (by omega)]
        exact e _ j r ha
  · rw [up_a z, up_a z, up_a z, up_a z]
    by_cases z2 : a = 51 + (hc 11 2).toNat
    · subst z2
      rw [cpy_at, cpy_at]
      dsimp only
      by_cases z3 : 0 ≤ j ∧ j < 0 + 37
      · rw [if_pos z3, if_pos z3]
        exact e _ _ rfl (by omega)
      · rw [if_neg z3, if_neg z3]
        exact e _ j r ha
    · rw [cpy_ne z2, cpy_ne z2]
      exact e a j r ha
theorem MS_rem {hm H : MH} (e : MS hm H) : MS (remM hm) (remM H) := by
  have t : H 97 37 = hm 97 37 := e _ _ rfl (by omega)
  have u : H 112 = hm 112 := funext fun j => e _ _ rfl (by omega)
  have n : H 110 = hm 110 := funext fun j => e _ _ rfl (by omega)
  intro a j r ha
  unfold remM
  rw [t, u, n]
  have key : ∀ (g g2 : MH) (v : Int), (¬ (a = 97 ∧ j = 37) → g a j = g2 a j) → up g 97 37 v a j = up g2 97 37 v a j := by
    intro g g2 v hg
    by_cases z : a = 97
    · subst z
      by_cases z1 : j = 37
      · subst z1; rw [up_s, up_s]
      · rw [up_i z1, up_i z1]; exact hg (fun y => z1 y.2)
    · rw [up_a z, up_a z]; exact hg (fun y => z y.1)
  have kc : ∀ (g g2 : MH) (f : Nat → Int) (sp dp k : Nat), g a j = g2 a j → cpy g f 112 sp dp k a j = cpy g2 f 112 sp dp k a j := by
    intro g g2 f sp dp k hg
    by_cases z : a = 112
    · subst z
      rw [cpy_at, cpy_at]
      dsimp only
      split
      · rfl
      · exact hg
    · rw [cpy_ne z, cpy_ne z]; exact hg
  split
  · apply key
    intro _
    apply kc
    apply key
    intro _
    apply kc
    exact e a j r ha
  · apply key
    intro _
    apply kc
    exact e a j r ha
/-- an act's picture -/
def acC (hc : MH) (c2 sh2 : Nat → Int) : MH := rs (rs (keepC hc) 91 c2) 92 sh2
def acM (hm : MH) (v2 : Nat → Int) : MH := rs (remM hm) 110 v2
def SS (f n b2 : Int) (c v sh c2 v2 sh2 : Nat → Int) : Prop := stR c2 v2 ∧ stOK f n b2 c2 ∧ ((c2 5 = c 5 ∧ sh2 = sh ∧ ∀ j, 37 ≤ j → j < 277 → v2 j = v j) ∨ (c2 5 = c 5 + 1 ∧ shotR (c 5) sh sh2 v v2))
theorem act_inv {b b2 : Int} {hc hm : MH} {c2 v2 sh2 : Nat → Int} (i : Inv0 b (mix hc hm)) (hb : b ≤ b2) (s : SS (hc 2 3) (hc 2 4) b2 (hc 91) (hm 110) (hc 92) c2 v2 sh2) : Inv0 b2 (mix (acC hc c2 sh2) (acM hm v2)) ∧ resL (mix (acC hc c2 sh2) (acM hm v2)) = resL (mix hc hm) := by
  obtain ⟨s1, s2, s3⟩ := s
  have e1 : acC hc c2 sh2 91 = c2 := by unfold acC; rw [rs_n (by omega), rs_s]
  have e2 : acC hc c2 sh2 92 = sh2 := by unfold acC; rw [rs_s]
  have e3 : acM hm v2 110 = v2 := by unfold acM; rw [rs_s]
  refine Inv_act i hb (fun a j _ _ h1 h2 => ?_) (fun a j _ _ h1 => ?_) (by rw [e1, e3]; exact s1) (by rw [e1]; exact s2) (by rw [e1, e2, e3]; exact s3)
  · unfold acC; rw [rs_n h2, rs_n h1]
  · unfold acM; rw [rs_n h1]
theorem act_C {h hc H H2 : MH} {c2 sh2 : Nat → Int} (sf : SF h H) (e : CS hc H) (h0 : 0 ≤ hc 11 2) (h40 : hc 11 2 < 40) (fr : ∀ a, a ≠ 23 → a ≠ 30 → a ≠ 91 → a ≠ 92 → H2 a = keepC H a) (e1 : H2 91 = c2) (e2 : H2 92 = sh2) : SF h H2 ∧ CS (acC hc c2 sh2) H2 ∧ Kc H H2 := by
  have t : H 11 2 = hc 11 2 := e _ _ rfl (by omega)
  refine ⟨fun a j r => ?_, fun a j r ha => ?_, fun a ha => ?_⟩
  · have n1 : a ≠ 23 := fun z => by subst z; exact Bool.false_ne_true r
    have n2 : a ≠ 30 := fun z => by subst z; exact Bool.false_ne_true r
    have n3 : a ≠ 91 := fun z => by subst z; exact Bool.false_ne_true r
    have n4 : a ≠ 92 := fun z => by subst z; exact Bool.false_ne_true r
    have n5 : a ≠ 11 := fun z => by subst z; exact Bool.false_ne_true r
    have n6 : ¬ (51 ≤ a ∧ a < 51 + 40) := by
      intro z
      have : a ≤ 40 ∨ 97 ≤ a := by
        unfold relF at r
        split at r <;> first | omega | exact absurd r Bool.false_ne_true
      omega
    rw [fr a n1 n2 n3 n4, keepC_ne (by omega) n5 n6]
    exact sf a j r
  · unfold acC
    by_cases z1 : a = 92
    · subst z1; rw [e2, rs_s]
    · by_cases z2 : a = 91
      · subst z2; rw [e1, rs_n (by omega), rs_s]
      · rw [rs_n z1, rs_n z2, fr a (fun z => by subst z; exact Bool.false_ne_true r) (fun z => by subst z; exact Bool.false_ne_true r) z2 z1]
        exact CS_keep e h0 h40 a j r ha
  · rw [fr a (by omega) (by omega) (by omega) (by omega), keepC_ne (by omega) (by omega) (by omega)]
theorem act_M {h hm H H2 : MH} {v2 : Nat → Int} (sf : SF h H) (e : MS hm H) (fr : ∀ a j, ¬ (a = 97 ∧ (prF_ j ∨ j = 38)) → a ≠ 101 → a ≠ 110 → H2 a j = remM H a j) (e1 : H2 110 = v2) : SF h H2 ∧ MS (acM hm v2) H2 ∧ Km H H2 := by
  refine ⟨fun a j r => ?_, fun a j r ha => ?_, fun a ha => funext fun j => ?_⟩
  · have n1 : a ≠ 101 := fun z => by subst z; exact Bool.false_ne_true r
    have n2 : a ≠ 110 := fun z => by subst z; exact Bool.false_ne_true r
    have n3 : a ≠ 112 := fun z => by subst z; exact Bool.false_ne_true r
    have n4 : ¬ (a = 97 ∧ (prF_ j ∨ j = 38)) := by
      rintro ⟨z, z2 | z2⟩
      · have := relF_B r; rw [pr_rel ⟨z, z2⟩] at this; cases this
      · subst z; subst z2; exact Bool.false_ne_true r
    rw [fr a j n4 n1 n2]
    by_cases z : a = 97
    · subst z
      rw [remM_f (fun z => by subst z; exact Bool.false_ne_true r)]
      exact sf _ j r
    · rw [remM_ne z n3]
      exact sf a j r
  · unfold acM
    by_cases z2 : a = 110
    · subst z2; rw [e1, rs_s]
    · rw [rs_n z2, fr a j (by
        rintro ⟨y, y2 | y2⟩
        · rw [pr_rel ⟨y, y2⟩] at r; cases r
        · subst y; subst y2; exact Bool.false_ne_true r) (fun z => by subst z; exact Bool.false_ne_true r) z2]
      exact MS_rem e a j r ha
  · rw [fr a j (by omega) (by omega) (by omega), remM_ne (by omega) (by omega)]
/-! shoot -/
theorem e_bits : ∃ F : Int → Int, ∀ (d : Nat) (x : Int) (h : MH), Run d 76 0 [.inl x] [] h = some (some (.inl (F x)), h) := ⟨_, fun d x h => q76_0 d x h⟩
noncomputable def bcF : Int → Int := Classical.choose e_bits
theorem e_bc (d : Nat) (x : Int) (h : MH) : Run d 76 0 [.inl x] [] h = some (some (.inl (bcF x)), h) := Classical.choose_spec e_bits d x h
theorem e_canFire (d : Nat) (k pw : Int) (h : MH) (h5 : h 2 4 ≤ 5) : Run (d + 1) 71 0 [vR 0, vR 12, .inl k, .inl pw] [] h = some (some (.inl (bi (((0 ≤ k ∧ k < h 2 4) ∧ h 91 (16 + k).toNat = 0) ∧ (1 ≤ pw ∧ pw ≤ 20) ∧ pw ≤ h 91 0))), h) := by
  rw [q71_0, e_hasCarrier, cI_some]
  by_cases q1 : 0 ≤ k ∧ k < h 2 4
  · rw [bi_t q1, if_neg (by omega), wI_ok (x := 16 + k) (by omega) (by omega), if_pos (by omega)]
    by_cases q2 : h 91 (16 + k).toNat = 0
    · rw [if_neg (fun z => z q2), e_isPowder, cI_some]
      by_cases q3 : 1 ≤ pw ∧ pw ≤ 20
      · rw [bi_t q3, if_neg (by omega)]
        by_cases q4 : h 91 0 < pw
        · rw [if_pos q4, bi_f (by omega)]
        · rw [if_neg q4, bi_t ⟨⟨q1, q2⟩, q3, by omega⟩]
      · rw [bi_f q3, if_pos rfl, bi_f (fun z => q3 z.2.1)]
    · rw [if_pos q2, bi_f (fun z => q2 z.1.2)]
  · rw [bi_f q1, if_pos rfl, bi_f (fun z => q1 z.1.1)]
theorem m_canShoot (d : Nat) (k pw way : Int) (h : MH) (h5 : h 97 27 ≤ 5) : Run (d + 2) 227 0 [vR 97, vR 110, .inl k, .inl pw, .inl way] [] h = some (some (.inl (bi (((0 ≤ k ∧ k < h 97 27) ∧ h 110 (16 + 3 * k + 2).toNat = 0) ∧ (0 ≤ way ∧ way ≤ 1) ∧ (1 ≤ pw ∧ pw ≤ 20) ∧ pw ≤ h 110 31))), h) := by
  have fr : Run (d + 1) 228 0 [vR 97, vR 110, .inl k] [] h = some (some (.inl (bi ((0 ≤ k ∧ k < h 97 27) ∧ h 110 (16 + 3 * k + 2).toNat = 0))), h) := by
    rw [q228_0, m_isCarrier, cI_some]
    by_cases q : 0 ≤ k ∧ k < h 97 27
    · rw [bi_t q, if_neg (by omega), m_folk _ _ _ q.1 (by omega), cI_some, wI_ok (by omega) (by omega), if_pos (by omega)]
      by_cases q2 : h 110 (16 + 3 * k + 2).toNat = 0
      · rw [if_neg (fun z => z q2), bi_t ⟨q, q2⟩]
      · rw [if_pos q2, bi_f (fun z => q2 z.2)]
    · rw [bi_f q, if_pos rfl, bi_f (fun z => q z.1)]
  rw [q227_0, fr, cI_some]
  by_cases q1 : (0 ≤ k ∧ k < h 97 27) ∧ h 110 (16 + 3 * k + 2).toNat = 0
  · rw [bi_t q1, if_neg (by omega), m_isIn, cI_some]
    by_cases q2 : 0 ≤ way ∧ way ≤ 1
    · rw [bi_t q2, if_neg (by omega), m_isIn, cI_some]
      by_cases q3 : 1 ≤ pw ∧ pw ≤ 20
      · rw [bi_t q3, if_neg (by omega)]
        by_cases q4 : h 110 31 < pw
        · rw [if_pos q4, bi_f (by omega)]
        · rw [if_neg q4, bi_t ⟨q1, q2, q3, by omega⟩]
      · rw [bi_f q3, if_pos rfl, bi_f (fun z => q3 z.2.2.1)]
    · rw [bi_f q2, if_pos rfl, bi_f (fun z => q2 z.2.1)]
  · rw [bi_f q1, if_pos rfl, bi_f (fun z => q1 z.1)]
theorem e_canFireT (d : Nat) (k pw : Int) (h : MH) (h5 : h 2 4 ≤ 5) : Run (d + 1) 71 0 [vR 0, vR 13, .inl k, .inl pw] [] h = some (some (.inl (bi (((0 ≤ k ∧ k < h 2 4) ∧ h 93 (16 + k).toNat = 0) ∧ (1 ≤ pw ∧ pw ≤ 20) ∧ pw ≤ h 93 0))), h) := by
  rw [q71_0_1, e_hasCarrier, cI_some]
  by_cases q1 : 0 ≤ k ∧ k < h 2 4
  · rw [bi_t q1, if_neg (by omega), wI_ok (x := 16 + k) (by omega) (by omega), if_pos (by omega)]
    by_cases q2 : h 93 (16 + k).toNat = 0
    · rw [if_neg (fun z => z q2), e_isPowder, cI_some]
      by_cases q3 : 1 ≤ pw ∧ pw ≤ 20
      · rw [bi_t q3, if_neg (by omega)]
        by_cases q4 : h 93 0 < pw
        · rw [if_pos q4, bi_f (by omega)]
        · rw [if_neg q4, bi_t ⟨⟨q1, q2⟩, q3, by omega⟩]
      · rw [bi_f q3, if_pos rfl, bi_f (fun z => q3 z.2.1)]
    · rw [if_pos q2, bi_f (fun z => q2 z.1.2)]
  · rw [bi_f q1, if_pos rfl, bi_f (fun z => q1 z.1.1)]
theorem m_canShootT (d : Nat) (k pw way : Int) (h : MH) (h5 : h 97 27 ≤ 5) : Run (d + 2) 227 0 [vR 97, vR 111, .inl k, .inl pw, .inl way] [] h = some (some (.inl (bi (((0 ≤ k ∧ k < h 97 27) ∧ h 111 (16 + 3 * k + 2).toNat = 0) ∧ (0 ≤ way ∧ way ≤ 1) ∧ (1 ≤ pw ∧ pw ≤ 20) ∧ pw ≤ h 111 31))), h) := by
  have fr : Run (d + 1) 228 0 [vR 97, vR 111, .inl k] [] h = some (some (.inl (bi ((0 ≤ k ∧ k < h 97 27) ∧ h 111 (16 + 3 * k + 2).toNat = 0))), h) := by
    rw [q228_0_1, m_isCarrier, cI_some]
    by_cases q : 0 ≤ k ∧ k < h 97 27
    · rw [bi_t q, if_neg (by omega), m_folk _ _ _ q.1 (by omega), cI_some, wI_ok (by omega) (by omega), if_pos (by omega)]
      by_cases q2 : h 111 (16 + 3 * k + 2).toNat = 0
      · rw [if_neg (fun z => z q2), bi_t ⟨q, q2⟩]
      · rw [if_pos q2, bi_f (fun z => q2 z.2)]
    · rw [bi_f q, if_pos rfl, bi_f (fun z => q z.1)]
  rw [q227_0_1, fr, cI_some]
  by_cases q1 : (0 ≤ k ∧ k < h 97 27) ∧ h 111 (16 + 3 * k + 2).toNat = 0
  · rw [bi_t q1, if_neg (by omega), m_isIn, cI_some]
    by_cases q2 : 0 ≤ way ∧ way ≤ 1
    · rw [bi_t q2, if_neg (by omega), m_isIn, cI_some]
      by_cases q3 : 1 ≤ pw ∧ pw ≤ 20
      · rw [bi_t q3, if_neg (by omega)]
        by_cases q4 : h 111 31 < pw
        · rw [if_pos q4, bi_f (by omega)]
        · rw [if_neg q4, bi_t ⟨q1, q2, q3, by omega⟩]
      · rw [bi_f q3, if_pos rfl, bi_f (fun z => q3 z.2.2.1)]
    · rw [bi_f q2, if_pos rfl, bi_f (fun z => q2 z.2.1)]
  · rw [bi_f q1, if_pos rfl, bi_f (fun z => q1 z.1)]
theorem c_shoot {b : Int} {Ws : Nat → WF} {h : MH} (i : InvX b Ws h) (hb : b ≤ 800000) (x y z w : Int) : PrX b (b + 1) Ws 70 226 [vR 0, .inl x, .inl y, .inl z, .inl w, vU] [vR 97, .inl x, .inl y, .inl z, .inl w, vU] h := by
  obtain ⟨l1, l2, l3, l4, l5, l6, l7⟩ := lg_n i.1.1
  have r := nowR i.1.1
  have o := nowOK i.1.1
  obtain ⟨hh1, hh2, hh3⟩ := hist_n i.1.1
  obtain ⟨-, -, s1, s2, s3, s4, s5, s6⟩ := nowR i.1.1
  by_cases q0 : (((0 ≤ x ∧ x < h 2 4) ∧ h 91 (16 + x).toNat = 0) ∧ (1 ≤ y ∧ y ≤ 20) ∧ y ≤ h 91 0) ∧ (z = 0 ∨ z = 1)
  · obtain ⟨qf, qz⟩ := q0
    obtain ⟨⟨qx, ql⟩, qp, qq⟩ := id qf
    have at_ := so_at o x qx.1 qx.2
    have vat := st_at r x qx.1 (by omega)
    have lat := st_late r x qx.1 (by omega)
    have nws := st_news r (h 91 (6 + x).toNat) at_.1 (by omega)
    have rule3 := lg_rule i.1.1 3 (by omega)
    by_cases q1 : (0 ≤ w ∧ w ≤ 63) ∧ iAnd w (iXor (h 91 (29 + h 91 (6 + x).toNat).toNat) (-1)) = 0 ∧ bcF w ≤ h 16 3
    · obtain ⟨qw, qa, qb⟩ := q1
      -- class
      have k0 := keepC_ne (h := h) (a := 91) hh2.2 (by omega) (by omega)
      have kF : SF h (keepC h) := fun a j rr => by
        have n5 : a ≠ 11 := fun z => by subst z; exact Bool.false_ne_true rr
        have n6 : ¬ (51 ≤ a ∧ a < 51 + 40) := by
          intro z
          have : a ≤ 40 ∨ 97 ≤ a := by
            unfold relF at rr
            split at rr <;> first | omega | exact absurd rr Bool.false_ne_true
          omega
        rw [keepC_ne hh2.2 n5 n6]
      obtain ⟨d1, d2, d3, d4, d5, d6, d7, d8, d9⟩ := kF.dat
      obtain ⟨H1, r1, r2, r3, r4⟩ := e_fire (kF.F i.1.F) 34 (b := b) (k := x) (pw := y) (way := z) (nw := w) (by rw [d4, d5, k0]; exact o) (by omega) qx.1 (by omega) qp.1 qp.2
      rw [k0, d1, d2, d3, d4] at r1 r3 r4
      have kS : keepC h 92 = h 92 := keepC_ne hh2.2 (by omega) (by omega)
      rw [kS] at r4
      obtain ⟨a1, a2, a3⟩ := act_C (SF.rf h) (fun _ _ _ _ => rfl : CS h h) hh2.1 hh2.2 r2 r3 r4
      have lb := ldF_b (h 17) (h 2 3) (plF Ws (h 6 2) (h 17) (h 18) x (h 91 (6 + x).toNat) y z (h 91 1) (h 91 2) (h 91 3)) l3
      generalize hL : ldF (h 17) (h 2 3) (plF Ws (h 6 2) (h 17) (h 18) x (h 91 (6 + x).toNat) y z (h 91 1) (h 91 2) (h 91 3)) = L at r1 r3 r4 a2 lb
      have c1 : Run 40 70 0 [vR 0, .inl x, .inl y, .inl z, .inl w, vU] [] h = some (some (.inl (if L = -1 then -2 else L)), H1) := by
        rw [q70_0, e_canFire _ _ _ _ l6, cI_some, bi_t qf, if_neg (by omega), e_isWay, cI_some, bi_t qz, if_neg (by omega), q75_0, wI_ok (x := 6 + x) (by omega) (by omega), if_pos (by omega), wI_ok (x := 29 + _) (by omega) (by omega), if_pos (by omega), if_neg (by omega), if_neg (by omega), if_neg (fun z => z qa), e_bc, cI_some, q62_0, cI_some, if_neg (by omega), cI_some, if_pos (by omega), e_keep _ _ hh2.1 hh2.2 hh1.1 hh1.2, cV_some, r1, cI_some]
        by_cases zL : L = -1
        · rw [if_neg (fun z => z zL), if_pos zL]
        · rw [if_pos zL, if_neg zL]
      -- reference
      have kG : SF h (up H1 97 0 0) := fun a j rr => by
        by_cases za : a = 97
        · subst za
          rw [up_i (fun z => by subst z; exact Bool.false_ne_true rr)]
          exact a1 _ j rr
        · rw [up_a za]; exact a1 a j rr
      have kM : MS h (up H1 97 0 0) := fun a j rr ha => by
        by_cases za : a = 97
        · subst za
          rw [up_i (fun z => by subst z; exact Bool.false_ne_true rr), a3 _ (by omega)]
        · rw [up_a za, a3 a ha]
      have n0 : up H1 97 0 0 110 = h 110 := by rw [up_ne (by omega), a3 _ (by omega)]
      have ac0 : up H1 97 0 0 97 37 = h 11 0 := by rw [up_i (by omega), a3 _ (by omega), hh3]
      have kH : SF h (remM (up H1 97 0 0)) := fun a j rr => by
        have n3 : a ≠ 112 := fun z => by subst z; exact Bool.false_ne_true rr
        by_cases z : a = 97
        · subst z
          rw [remM_f (fun z => by subst z; exact Bool.false_ne_true rr)]
          exact kG _ j rr
        · rw [remM_ne z n3]
          exact kG a j rr
      obtain ⟨f1, f2, f3, f4, f5, f6, f7, f8, f9⟩ := kH.dat
      have n1 : remM (up H1 97 0 0) 110 = h 110 := by rw [remM_ne (by omega) (by omega), n0]
      obtain ⟨H2, t1, t2, t3⟩ := m_shoots (kH.F i.1.F) 3 (b := b) (k := x) (pw := y) (way := z) (nw := w) (c := h 91) (by rw [n1]; exact r) (by rw [f4, f5]; exact o) (by omega) qx.1 (by omega) qp.1 qp.2
      rw [f1, f2, f3, f4, hL] at t1 t3
      rw [n1] at t3
      obtain ⟨b1, b2, b3⟩ := act_M kG kM (fun a j n1 n2 n3 => t2 a j (fun z => n1 ⟨z.1, Or.inl z.2⟩) n2 n3) t3
      obtain ⟨g1, g2, g3, g4, g5, g6, g7, g8, g9⟩ := kG.dat
      have m1 : Run 40 226 0 [vR 97, .inl x, .inl y, .inl z, .inl w, vU] [] H1 = some (some (.inl (if L = -1 then -2 else L)), H2) := by
        rw [q226_0, m_canShoot _ _ _ _ _ (by rw [g8, l2]; exact l6), cI_some, g8, l2, n0, lat, s1, bi_t ⟨⟨qx, ql⟩, by omega, qp, qq⟩, if_neg (by omega), m_isIn, cI_some, bi_t qw, if_neg (by omega), m_folk _ _ _ qx.1 (by omega), cI_some, if_pos (by omega), n0, vat, wI_ok (x := 8 + _) (by omega) (by omega), if_pos (by omega), nws, if_neg (fun z => z qa), e_bc, cI_some, g9, rule3, if_pos qb, m_remember _ _ (by omega) (by omega), cV_some, t1, cI_some]
        by_cases zL : L = -1
        · rw [if_neg (fun z => z zL), if_pos zL]
        · rw [if_pos zL, if_neg zL]
      have inv := act_inv (b2 := b + 1) (hc := h) (hm := h) (by rw [mix_self]; exact i.1.1) (by omega) (c2 := shC (h 91) x y L w) (v2 := lgM (shV (h 110) x y L w) x (h 91 (6 + x).toNat) L y) (sh2 := su4 (h 92) (4 * ((h 91 5).toNat % 100)) x (h 91 (6 + x).toNat) L y) ⟨stR_shot r o.1.2.2.2.2.2.1 qx.1 (by omega) (by omega), stOK_shot o qx.1 qx.2 l6 l4 (by omega) (by omega) qq qw.1 qw.2, Or.inr ⟨shC_5 _ _ _ _ _, shot_R r o.1.2.2.2.2.2.1 qx.1 (by omega) (by omega)⟩⟩
      rw [mix_self] at inv
      exact PrX_S i c1 a2 m1 b2 (Km.tr (fun a ha => up_ne (by omega)) b3) inv.1 inv.2
    · refine Pr_X i (Pr_mono (by omega) (Pr_no i.1.1 (v := -1) ?_ ?_))
      · rw [q70_0, e_canFire _ _ _ _ l6, cI_some, bi_t qf, if_neg (by omega), e_isWay, cI_some, bi_t qz, if_neg (by omega), q75_0, wI_ok (x := 6 + x) (by omega) (by omega), if_pos (by omega), wI_ok (x := 29 + _) (by omega) (by omega), if_pos (by omega)]
        by_cases v1 : w < 0
        · rw [if_pos v1, cI_some, if_neg (by omega)]
        · rw [if_neg v1]
          by_cases v2 : 63 < w
          · rw [if_pos v2, cI_some, if_neg (by omega)]
          · rw [if_neg v2]
            by_cases v3 : iAnd w (iXor (h 91 (29 + h 91 (6 + x).toNat).toNat) (-1)) = 0
            · rw [if_neg (fun z => z v3), e_bc, cI_some, q62_0, cI_some, if_pos (by omega), cI_some, if_neg (by omega)]
            · rw [if_pos v3, cI_some, if_neg (by omega)]
      · rw [q226_0, m_canShoot _ _ _ _ _ (by rw [up_i (by omega), l2]; exact l6), cI_some, up_i (by omega), up_a (by omega), up_a (by omega), l2, lat, s1, bi_t ⟨⟨qx, ql⟩, by omega, qp, qq⟩, if_neg (by omega), m_isIn, cI_some]
        by_cases v1 : 0 ≤ w ∧ w ≤ 63
        · rw [bi_t v1, if_neg (by omega), m_folk _ _ _ qx.1 (by omega), cI_some, if_pos (by omega), up_a (by omega), vat, wI_ok (x := 8 + _) (by omega) (by omega), if_pos (by omega), up_a (by omega), nws]
          by_cases v3 : iAnd w (iXor (h 91 (29 + h 91 (6 + x).toNat).toNat) (-1)) = 0
          · rw [if_neg (fun z => z v3), e_bc, cI_some, up_a (by omega), rule3, if_neg (fun z => q1 ⟨v1, v3, z⟩)]
          · rw [if_pos v3]
        · rw [bi_f v1, if_pos rfl]
  · refine Pr_X i (Pr_mono (by omega) (Pr_no i.1.1 (v := -1) ?_ ?_))
    · rw [q70_0, e_canFire _ _ _ _ l6, cI_some]
      by_cases v1 : (((0 ≤ x ∧ x < h 2 4) ∧ h 91 (16 + x).toNat = 0) ∧ (1 ≤ y ∧ y ≤ 20) ∧ y ≤ h 91 0)
      · rw [bi_t v1, if_neg (by omega), e_isWay, cI_some, bi_f (fun y => q0 ⟨v1, y⟩), if_pos rfl]
      · rw [bi_f v1, if_pos rfl]
    · rw [q226_0, m_canShoot _ _ _ _ _ (by rw [up_i (by omega), l2]; exact l6), cI_some, up_i (by omega), up_a (by omega), up_a (by omega), l2, s1, bi_f (by
        rintro ⟨⟨v1, v2⟩, v3, v4, v5⟩
        have lat := st_late r x v1.1 (by omega)
        rw [lat] at v2
        omega), if_pos rfl]
