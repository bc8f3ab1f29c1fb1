/-! relays -/
def nxF (p : Nat → Nat) (x c f : Nat) : Nat := if x.testBit (p c) = true then x ||| 2 ^ f else x
def upN (p : Nat → Nat) (c f : Nat) : Nat → Nat := fun j => if j = c then f else p j
def ckF (fr : Nat → Bool) (A : Nat → Nat → Nat → Int) (C n g : Nat) : Nat → (Nat → Nat) → Nat → Bool
  | 0, _, x => x.testBit g
  | k + 1, p, x => x.testBit g || orF (fun c => orF (fun f => fr c && (decide (A c (p c) f ≠ -1) && ckF fr A C n g k (upN p c f) (nxF p x c f))) n) C
def gsF (fr : Nat → Bool) (A : Nat → Nat → Nat → Int) (C n g k : Nat) (p : Nat → Nat) (x c f : Nat) : Bool := fr c && (decide (A c (p c) f ≠ -1) && ckF fr A C n g k (upN p c f) (nxF p x c f))
theorem ck_iff {fr : Nat → Bool} {A : Nat → Nat → Nat → Int} {C n g k : Nat} {p : Nat → Nat} {x : Nat} : ckF fr A C n g (k + 1) p x = true ↔ x.testBit g = true ∨ ∃ c, c < C ∧ ∃ f, f < n ∧ gsF fr A C n g k p x c f = true := by
  show (x.testBit g || orF (fun c => orF (fun f => gsF fr A C n g k p x c f) n) C) = true ↔ _
  rw [Bool.or_eq_true, orF_iff]
  simp only [orF_iff]
theorem ck_g {fr : Nat → Bool} {A : Nat → Nat → Nat → Int} {C n g : Nat} {p : Nat → Nat} {x : Nat} (h : x.testBit g = true) : ∀ k, ckF fr A C n g k p x = true
  | 0 => h
  | _ + 1 => ck_iff.2 (Or.inl h)
theorem nx_0 (p : Nat → Nat) (c f : Nat) : nxF p 0 c f = 0 := by
  unfold nxF
  rw [Nat.zero_testBit, if_neg Bool.false_ne_true]
theorem ck_0 {fr : Nat → Bool} {A : Nat → Nat → Nat → Int} {C n g : Nat} : ∀ (k : Nat) (p : Nat → Nat), ckF fr A C n g k p 0 = false
  | 0, _ => Nat.zero_testBit g
  | k + 1, p => by
    cases q : ckF fr A C n g (k + 1) p 0
    · rfl
    · rcases ck_iff.1 q with z | ⟨c, -, f, -, z⟩
      · rw [Nat.zero_testBit] at z; cases z
      · unfold gsF at z
        rw [nx_0, ck_0 k, Bool.and_false, Bool.and_false] at z
        cases z
theorem nx_lt {p : Nat → Nat} {x c f n : Nat} (hx : x < 2 ^ n) (hf : f < n) : nxF p x c f < 2 ^ n := by
  unfold nxF
  split
  · exact Nat.or_lt_two_pow hx (Nat.pow_lt_pow_right (by omega) hf)
  · exact hx
theorem gs_no {fr : Nat → Bool} {A : Nat → Nat → Nat → Int} {C n g k : Nat} {p : Nat → Nat} {x c f : Nat} (h : ckF fr A C n g (k + 1) p x = false) (hc : c < C) (hf : f < n) (h1 : fr c = true) (h2 : A c (p c) f ≠ -1) : ckF fr A C n g k (upN p c f) (nxF p x c f) = false := by
  cases q : ckF fr A C n g k (upN p c f) (nxF p x c f)
  · rfl
  · have : ckF fr A C n g (k + 1) p x = true := ck_iff.2 (Or.inr ⟨c, hc, f, hf, by unfold gsF; rw [h1, q, decide_eq_true h2]; rfl⟩)
    rw [h] at this
    cases this
def isFst (P : Nat → Nat → Bool) (C n : Nat) (v : Int) : Prop := (v = -1 ∧ ∀ c f, c < C → f < n → P c f = false) ∨ ∃ c f : Nat, v = 10 * c + f ∧ c < C ∧ f < n ∧ P c f = true ∧ ∀ c2 f2, c2 < C → f2 < n → 10 * c2 + f2 < 10 * c + f → P c2 f2 = false
theorem fst_ck {fr : Nat → Bool} {A : Nat → Nat → Nat → Int} {C n g k : Nat} {p : Nat → Nat} {x : Nat} {v : Int} (h : isFst (gsF fr A C n g k p x) C n v) (hx : x.testBit g = false) : v = -1 ↔ ckF fr A C n g (k + 1) p x = false := by
  constructor
  · intro z
    rcases h with ⟨-, h⟩ | ⟨c, f, h, -⟩
    · cases q : ckF fr A C n g (k + 1) p x
      · rfl
      · rcases ck_iff.1 q with y | ⟨c, c1, f, f1, y⟩
        · rw [hx] at y; cases y
        · rw [h c f c1 f1] at y; cases y
    · omega
  · intro z
    rcases h with ⟨h, -⟩ | ⟨c, f, h, c1, f1, y, -⟩
    · exact h
    · rw [ck_iff.2 (Or.inr ⟨c, c1, f, f1, y⟩)] at z
      cases z
def ERl (h H : MH) : Prop := ∀ a, a ≠ 23 → a ≠ 30 → a ≠ 38 → a ≠ 39 → a ≠ 44 → H a = h a
theorem ERl.dat {Ws : Nat → WF} {h H : MH} (e : ERl h H) : H 2 = h 2 ∧ amH Ws H = amH Ws h := by
  refine ⟨e _ (by omega) (by omega) (by omega) (by omega) (by omega), ?_⟩
  funext c f to
  unfold amH
  rw [e 6 (by omega) (by omega) (by omega) (by omega) (by omega), e 17 (by omega) (by omega) (by omega) (by omega) (by omega), e 18 (by omega) (by omega) (by omega) (by omega) (by omega), e 2 (by omega) (by omega) (by omega) (by omega) (by omega), e 91 (by omega) (by omega) (by omega) (by omega) (by omega)]
def frF (h : MH) (c : Nat) : Bool := decide (h 91 (16 + c) = 0)
def amT (Ws : Nat → WF) (h : MH) (c f t : Nat) : Int := amH Ws h c f t
def gdR (b : Int) (Ws : Nat → WF) (h : MH) (C : Nat) (p : Nat → Nat) (H : MH) : Prop := ERl h H ∧ InvX b Ws H ∧ ∀ j, j < C → H 44 j = p j
theorem e_firstL {b : Int} {Ws : Nat → WF} {h : MH} (i : InvX b Ws h) {n C g k d x : Nat} {p : Nat → Nat} (hn : h 2 3 = n) (hC : h 2 4 = C) (hg : g < n) (k2 : k ≤ 2) (hp : ∀ j, j < C → p j < n) (hk : ckF (frF h) (amT Ws h) C n g k p x = false)
    (ld : ∀ (H : MH) (c f : Nat), gdR b Ws h C p H → c < C → f < n → frF h c = true → amT Ws h c (p c) f ≠ -1 → ∃ H2, Run (d + 6) 134 0 [vR 9, vR 12, .inl ((10 * c + f : Nat) : Int), .inl ((k : Int) + 1), .inl (x : Int), .inl (g : Int), vU, vU, vU, vU, vU] [] H = some (some (.inl (bi (ckF (frF h) (amT Ws h) C n g k (upN p c f) (nxF p x c f) = true))), H2) ∧ gdR b Ws h C p H2) :
    ∀ H, gdR b Ws h C p H → ∃ v H2, Run (d + 7) 133 0 [vR 9, vR 12, .inl ((k : Int) + 1), .inl (x : Int), .inl (g : Int), vU, vU, vU, vU] [] H = some (some (.inl v), H2) ∧ gdR b Ws h C p H2 ∧ isFst (gsF (frF h) (amT Ws h) C n g k p x) C n v := by
  obtain ⟨l1, l2, l3, l4, l5, l6, l7⟩ := lg_n i.1.1
  have key : ∀ fm bh : Nat, bh ≤ n → fm ≤ bh → (∀ c f, c < C → f < n → gsF (frF h) (amT Ws h) C n g k p x c f = true → fm ≤ f ∧ f < bh) → ∀ (r c : Nat) (z6 : MV) (H : MH), cat z6 = 1 → c + r = C → gdR b Ws h C p H → (∀ c2 f2, c2 < c → f2 < n → gsF (frF h) (amT Ws h) C n g k p x c2 f2 = false) → ∃ v H2, Run (d + 7) 133 37 [vR 9, vR 12, .inl ((k : Int) + 1), .inl (x : Int), .inl (g : Int), .inl (fm : Int), .inl (bh : Int), .inl (c : Int), z6] [] H = some (some (.inl v), H2) ∧ gdR b Ws h C p H2 ∧ isFst (gsF (frF h) (amT Ws h) C n g k p x) C n v := by
    intro fm bh hb1 hb2 hfb r
    induction r with
    | zero =>
      intro c z6 H c6 hc gH no
      refine ⟨-1, H, ?_, gH, Or.inl ⟨rfl, fun c2 f2 h1 h2 => no c2 f2 (by omega) h2⟩⟩
      rw [q133_37 (hz6 := c6), if_pos (by rw [(gH.1.dat (Ws := Ws)).1]; omega)]
    | succ r ih =>
      intro c z6 H c6 hc gH no
      have inner : ∀ (q f : Nat) (H : MH), f + q = bh → fm ≤ f → gdR b Ws h C p H → (∀ f2, f2 < f → f2 < n → gsF (frF h) (amT Ws h) C n g k p x c f2 = false) → ∃ v H2, Run (d + 7) 133 53 [vR 9, vR 12, .inl ((k : Int) + 1), .inl (x : Int), .inl (g : Int), .inl (fm : Int), .inl (bh : Int), .inl (c : Int), .inl (f : Int)] [] H = some (some (.inl v), H2) ∧ gdR b Ws h C p H2 ∧ isFst (gsF (frF h) (amT Ws h) C n g k p x) C n v := by
        intro q
        induction q with
        | zero =>
          intro f H hf hf2 gH no2
          obtain ⟨v, H2, u1, u2, u3⟩ := ih (c + 1) (.inl (f : Int)) H rfl (by omega) gH (fun c2 f2 h1 h2 => by
            by_cases e : c2 = c
            · subst e
              cases y : gsF (frF h) (amT Ws h) C n g k p x c2 f2
              · rfl
              · have := hfb c2 f2 (by omega) h2 y
                rw [no2 f2 (by omega) h2] at y
                cases y
            · exact no c2 f2 (by omega) h2)
          refine ⟨v, H2, ?_, u2, u3⟩
          rw [← u1, q133_53, if_pos (by omega), wI_ok (by omega) (by omega)]
          rfl
        | succ q ihq =>
          intro f H hf hf2 gH no2
          obtain ⟨eH, iH, sH⟩ := id gH
          have e1 := (eH.dat (Ws := Ws)).1
          have e2 := (eH.dat (Ws := Ws)).2
          have nw : H 91 = h 91 := eH _ (by omega) (by omega) (by omega) (by omega) (by omega)
          have nxt : ∀ H2, gdR b Ws h C p H2 → gsF (frF h) (amT Ws h) C n g k p x c f = false → ∃ v H3, Run (d + 7) 133 53 [vR 9, vR 12, .inl ((k : Int) + 1), .inl (x : Int), .inl (g : Int), .inl (fm : Int), .inl (bh : Int), .inl (c : Int), .inl ((f : Int) + 1)] [] H2 = some (some (.inl v), H3) ∧ gdR b Ws h C p H3 ∧ isFst (gsF (frF h) (amT Ws h) C n g k p x) C n v := by
            intro H2 g2 y
            exact ihq (f + 1) H2 (by omega) (by omega) g2 (fun f2 a1 a2 => by
              by_cases e : f2 = f
              · rw [e]; exact y
              · exact no2 f2 (by omega) a2)
          rw [q133_53, if_neg (by omega), wI_ok (x := 16 + (c : Int)) (by omega) (by omega), wI_ok (x := (f : Int) + 1) (by omega) (by omega), if_pos (by omega), show (16 + (c : Int)).toNat = 16 + c by omega, nw]
          by_cases q1 : h 91 (16 + c) = 0
          · have fr1 : frF h c = true := decide_eq_true q1
            rw [if_neg (fun y => y q1), if_pos (by omega), show ((c : Nat) : Int).toNat = c by omega, sH c (by omega)]
            have pc := hp c (by omega)
            obtain ⟨H1, r1, r2, r3⟩ := e_leastPowder iH (d + 1) (c := (c : Int)) (f := (p c : Int)) (to := (f : Int)) (by omega) (by rw [e1]; omega) (by omega) (by rw [e1]; omega) (by omega) (by omega)
            rw [e2] at r1
            have r1' : Run (d + 6) 125 0 [vR 8, vR 12, .inl (c : Int), .inl (p c : Int), .inl (f : Int), vU, vU] [] H = some (some (.inl (amT Ws h c (p c) f)), H1) := r1
            have gH1 : gdR b Ws h C p H1 := ⟨fun a a1 a2 a3 a4 a5 => by rw [r2 a a1 a2 a3 a4, eH a a1 a2 a3 a4 a5], r3, fun j hj => by rw [r2 _ (by omega) (by omega) (by omega) (by omega), sH j hj]⟩
            rw [r1', cI_some]
            by_cases q2 : amT Ws h c (p c) f = -1
            · rw [if_pos q2]
              exact nxt H1 gH1 (by unfold gsF; rw [decide_eq_false (fun y => y q2), Bool.false_and, Bool.and_false])
            · rw [if_neg q2, wI_ok (x := 10 * (c : Int)) (by omega) (by omega), wI_ok (x := 10 * (c : Int) + f) (by omega) (by omega)]
              obtain ⟨H2, t1, t2⟩ := ld H1 c f gH1 (by omega) (by omega) fr1 q2
              refine (congrArg (fun t => ∃ v H3, cI t _ = some (some (.inl v), H3) ∧ gdR b Ws h C p H3 ∧ isFst (gsF (frF h) (amT Ws h) C n g k p x) C n v) t1).mpr ?_
              have eg : gsF (frF h) (amT Ws h) C n g k p x c f = ckF (frF h) (amT Ws h) C n g k (upN p c f) (nxF p x c f) := by
                unfold gsF
                rw [fr1, decide_eq_true q2]
                rfl
              rw [cI_some, ← eg]
              by_cases q3 : gsF (frF h) (amT Ws h) C n g k p x c f = true
              · rw [bi_t q3, if_neg (by omega)]
                refine ⟨_, H2, rfl, t2, Or.inr ⟨c, f, by omega, by omega, by omega, q3, fun c2 f2 a1 a2 a3 => ?_⟩⟩
                by_cases e : c2 = c
                · subst e; exact no2 f2 (by omega) a2
                · exact no c2 f2 (by omega) a2
              · rw [bi_f q3, if_pos rfl]
                exact nxt H2 t2 (Bool.eq_false_iff.2 q3)
          · rw [if_pos q1]
            exact nxt H gH (by unfold gsF; rw [show frF h c = false from decide_eq_false q1, Bool.false_and])
      obtain ⟨v, H2, u1, u2, u3⟩ := inner (bh - fm) fm H (by omega) (by omega) gH (fun f2 a1 a2 => by
        cases y : gsF (frF h) (amT Ws h) C n g k p x c f2
        · rfl
        · have := hfb c f2 (by omega) a2 y
          omega)
      refine ⟨v, H2, ?_, u2, u3⟩
      rw [← u1, q133_37 (hz6 := c6), if_neg (by rw [(gH.1.dat (Ws := Ws)).1]; omega)]
  intro H gH
  by_cases k0 : k = 0
  · subst k0
    obtain ⟨v, H2, u1, u2, u3⟩ := key g (g + 1) (by omega) (by omega) (fun c f c1 f1 y => by
      unfold gsF at y
      have y2 := (Bool.and_eq_true_iff.1 (Bool.and_eq_true_iff.1 y).2).2
      have y3 : (nxF p x c f).testBit g = true := y2
      have y4 : x.testBit g = false := hk
      unfold nxF at y3
      split at y3
      · rw [Nat.testBit_or, y4, Bool.false_or, Nat.testBit_two_pow] at y3
        have := of_decide_eq_true y3
        omega
      · rw [y4] at y3; cases y3) C 0 vU H rfl (by omega) gH (fun c2 f2 a1 => absurd a1 (by omega))
    refine ⟨v, H2, ?_, u2, u3⟩
    rw [← u1, q133_0, if_pos (by omega), if_pos (by omega), wI_ok (by omega) (by omega)]
    rfl
  · obtain ⟨v, H2, u1, u2, u3⟩ := key 0 n (by omega) (by omega) (fun c f c1 f1 y => by omega) C 0 vU H rfl (by omega) gH (fun c2 f2 a1 => absurd a1 (by omega))
    refine ⟨v, H2, ?_, u2, u3⟩
    rw [← u1, q133_0, if_neg (by omega), if_neg (by omega), (gH.1.dat (Ws := Ws)).1, hn]
    rfl
theorem nx_o {p : Nat → Nat} {x c f : Nat} (hx : x < 256) (hf : f < 8) : (if x.testBit (p c) = true then iOr (x : Int) (iShl 1 (f : Int)) else (x : Int)) = (nxF p x c f : Int) := by
  unfold nxF
  have pg : 2 ^ f < 2 ^ 8 := Nat.pow_lt_pow_right (by omega) hf
  split
  · rw [iShl_n f (by omega), iOr_n (by omega) (by omega)]
  · rfl
theorem td_10 {c f : Nat} (hf : f < 10) : ((10 * c + f : Nat) : Int).tdiv 10 = c := by rw [Int.tdiv_eq_ediv_of_nonneg (by omega)]; omega
theorem tm_10 {c f : Nat} (hf : f < 10) : ((10 * c + f : Nat) : Int).tmod 10 = f := by rw [Int.tmod_eq_emod_of_nonneg (by omega)]; omega
theorem e_first {b : Int} {Ws : Nat → WF} {h : MH} (i : InvX b Ws h) {n C g : Nat} (hn : h 2 3 = n) (hC : h 2 4 = C) (hg : g < n) :
    ∀ (k d x : Nat) (p : Nat → Nat), k ≤ 2 → x < 2 ^ n → (∀ j, j < C → p j < n) → ckF (frF h) (amT Ws h) C n g k p x = false → ∀ H, gdR b Ws h C p H → ∃ v H2, Run (d + 2 * k + 7) 133 0 [vR 9, vR 12, .inl ((k : Int) + 1), .inl (x : Int), .inl (g : Int), vU, vU, vU, vU] [] H = some (some (.inl v), H2) ∧ gdR b Ws h C p H2 ∧ isFst (gsF (frF h) (amT Ws h) C n g k p x) C n v := by
  obtain ⟨l1, l2, l3, l4, l5, l6, l7⟩ := lg_n i.1.1
  have n8 : n ≤ 8 := by omega
  have p8 : 2 ^ n ≤ 2 ^ 8 := Nat.pow_le_pow_right (by omega) n8
  intro k
  induction k with
  | zero =>
    intro d x p k2 hx hp hk
    refine e_firstL i (d := d) hn hC hg k2 hp hk (fun H c f gH hc hf h1 h2 => ⟨H, ?_, gH⟩)
    have pc := hp c hc
    have nx := nx_o (p := p) (x := x) (c := c) (f := f) (by omega) (by omega)
    have nl := nx_lt (p := p) (x := x) (c := c) (f := f) hx hf
    rw [q134_0, td_10 (by omega), tm_10 (by omega), wI_ok (by omega) (by omega), if_pos (by omega), show ((c : Nat) : Int).toNat = c by omega, gH.2.2 c hc, bit_n (by omega) (by omega)]
    have fin : ∀ y : Int, y = (nxF p x c f : Int) → Run (d + 6) 134 43 [vR 9, vR 12, .inl ((10 * c + f : Nat) : Int), .inl (((0 : Nat) : Int) + 1), .inl (x : Int), .inl (g : Int), .inl (c : Int), .inl (f : Int), .inl (p c : Int), vU, vU] [.inl y] H = some (some (.inl (bi (ckF (frF h) (amT Ws h) C n g 0 (upN p c f) (nxF p x c f) = true))), H) := by
      intro y hy
      rw [q134_43 (hz0 := rfl) (hz2 := rfl) (hz7 := rfl) (hz8 := rfl), if_neg (by omega), hy, bit_n (by omega) (by omega)]
      have ez : ckF (frF h) (amT Ws h) C n g 0 (upN p c f) (nxF p x c f) = (nxF p x c f).testBit g := rfl
      rw [ez]
      by_cases q : (nxF p x c f).testBit g = true
      · rw [bi_t q, if_neg (by omega)]
      · rw [bi_f q, if_pos rfl]
    by_cases q : x.testBit (p c) = true
    · rw [if_pos q] at nx
      rw [bi_t q, if_neg (by omega)]
      exact fin _ nx
    · rw [if_neg q] at nx
      rw [bi_f q, if_pos rfl]
      exact fin _ nx
  | succ k ih =>
    intro d x p k2 hx hp hk
    have := e_firstL i (d := d + 2 * k + 2) (x := x) (p := p) hn hC hg k2 hp hk (fun H c f gH hc hf h1 h2 => ?_)
    · rw [show d + 2 * (k + 1) + 7 = d + 2 * k + 2 + 7 by omega]
      exact this
    · have pc := hp c hc
      have nx := nx_o (p := p) (x := x) (c := c) (f := f) (by omega) (by omega)
      have nl := nx_lt (p := p) (x := x) (c := c) (f := f) hx hf
      have ng := gs_no hk hc hf h1 h2
      have g2 : gdR b Ws h C (upN p c f) (up H 44 c (f : Int)) := by
        refine ⟨fun a a1 a2 a3 a4 a5 => by rw [up_ne a5]; exact gH.1 a a1 a2 a3 a4 a5, (Eqv.up rfl).X gH.2.1, fun j hj => ?_⟩
        unfold upN
        by_cases e : j = c
        · rw [if_pos e, e, up_s]
        · rw [if_neg e, up_i e, gH.2.2 j hj]
      obtain ⟨v, H2, t1, t2, t3⟩ := ih d (nxF p x c f) (upN p c f) (by omega) nl (fun j hj => by
        unfold upN
        split
        · exact hf
        · exact hp j hj) ng (up H 44 c (f : Int)) g2
      have xg : (nxF p x c f).testBit g = false := by
        cases y : (nxF p x c f).testBit g
        · rfl
        · rw [ck_g y] at ng; cases ng
      have vk := fst_ck t3 xg
      have g3 : gdR b Ws h C p (up H2 44 c (p c : Int)) := by
        refine ⟨fun a a1 a2 a3 a4 a5 => by rw [up_ne a5]; exact t2.1 a a1 a2 a3 a4 a5, (Eqv.up rfl).X t2.2.1, fun j hj => ?_⟩
        by_cases e : j = c
        · rw [e, up_s]
        · rw [up_i e, t2.2.2 j hj]
          unfold upN
          rw [if_neg e]
      refine ⟨up H2 44 c (p c : Int), ?_, g3⟩
      rw [q134_0, td_10 (by omega), tm_10 (by omega), wI_ok (by omega) (by omega), if_pos (by omega), show ((c : Nat) : Int).toNat = c by omega, gH.2.2 c hc, bit_n (by omega) (by omega)]
      have fin : ∀ y : Int, y = (nxF p x c f : Int) → Run (d + 2 * k + 2 + 6) 134 43 [vR 9, vR 12, .inl ((10 * c + f : Nat) : Int), .inl (((k + 1 : Nat) : Int) + 1), .inl (x : Int), .inl (g : Int), .inl (c : Int), .inl (f : Int), .inl (p c : Int), vU, vU] [.inl y] H = some (some (.inl (bi (ckF (frF h) (amT Ws h) C n g (k + 1) (upN p c f) (nxF p x c f) = true))), up H2 44 c (p c : Int)) := by
        intro y hy
        rw [q134_43 (hz0 := rfl) (hz2 := rfl) (hz7 := rfl) (hz8 := rfl), if_pos (by omega), if_pos (by omega), show ((c : Nat) : Int).toNat = c by omega, hy, wI_ok (by omega) (by omega), show ((k + 1 : Nat) : Int) + 1 - 1 = (k : Int) + 1 by omega]
        refine (congrArg (fun t => cI t _) t1).trans ?_
        rw [cI_some]
        by_cases q : v = -1
        · rw [if_pos q, if_pos (by omega), bi_f (by rw [vk.1 q]; exact Bool.false_ne_true)]
        · rw [if_neg q, if_pos (by omega), bi_t (by
            cases y : ckF (frF h) (amT Ws h) C n g (k + 1) (upN p c f) (nxF p x c f)
            · exact absurd (vk.2 y) q
            · rfl)]
      by_cases q : x.testBit (p c) = true
      · rw [if_pos q] at nx
        rw [bi_t q, if_neg (by omega)]
        exact fin _ nx
      · rw [if_neg q] at nx
        rw [bi_f q, if_pos rfl]
        exact fin _ nx
/-! the reference's relays -/
def RG (fr : Nat → Bool) (A : Nat → Nat → Nat → Int) (C n : Nat) (G : MH) : Prop := G 97 27 = C ∧ G 97 26 = n ∧ (∀ c f t, c < C → f < n → t < n → G 113 (64 * c + 8 * f + t) = am0 (A c f t)) ∧ ∀ c, c < C → decide (G 110 (18 + 3 * c) = 0) = fr c
theorem RG.c {fr : Nat → Bool} {A : Nat → Nat → Nat → Int} {C n : Nat} {G : MH} (r : RG fr A C n G) : G 97 27 = C := r.1
theorem RG.f {fr : Nat → Bool} {A : Nat → Nat → Nat → Int} {C n : Nat} {G : MH} (r : RG fr A C n G) : G 97 26 = n := r.2.1
theorem RG.a {fr : Nat → Bool} {A : Nat → Nat → Nat → Int} {C n : Nat} {G : MH} (r : RG fr A C n G) : ∀ c f t, c < C → f < n → t < n → G 113 (64 * c + 8 * f + t) = am0 (A c f t) := r.2.2.1
theorem RG.l {fr : Nat → Bool} {A : Nat → Nat → Nat → Int} {C n : Nat} {G : MH} (r : RG fr A C n G) : ∀ c, c < C → decide (G 110 (18 + 3 * c) = 0) = fr c := r.2.2.2
theorem RG.up {fr : Nat → Bool} {A : Nat → Nat → Nat → Int} {C n : Nat} {G : MH} (r : RG fr A C n G) (j : Nat) (v : Int) : RG fr A C n (up G 114 j v) := ⟨by rw [up_ne (by omega)]; exact r.c, by rw [up_ne (by omega)]; exact r.f, by rw [up_ne (by omega)]; exact r.a, by rw [up_ne (by omega)]; exact r.l⟩
theorem up_back (G : MH) (a j : Nat) (v : Int) : up (up G a j v) a j (G a j) = G := by
  funext x y
  by_cases q : x = a
  · subst q
    by_cases q2 : y = j
    · subst q2; rw [up_s]
    · rw [up_i q2, up_i q2]
  · rw [up_a q, up_a q]
theorem m_frR {fr : Nat → Bool} {A : Nat → Nat → Nat → Int} {C n : Nat} {G : MH} (r : RG fr A C n G) (d : Nat) {c : Nat} (C5 : C ≤ 5) (hc : c < C) : Run (d + 1) 228 0 [vR 97, vR 110, .inl (c : Int)] [] G = some (some (.inl (bi (fr c = true))), G) := by
  have l := r.l c hc
  have e := r.c
  rw [m_free d c G (by omega) (by omega), show (16 + 3 * (c : Int) + 2).toNat = 18 + 3 * c by omega]
  rw [bi_congr (e := fr c = true)]
  rw [← l]
  constructor
  · intro z; exact decide_eq_true z.2
  · intro z; exact ⟨by omega, of_decide_eq_true z⟩
theorem m_go1 {fr : Nat → Bool} {A : Nat → Nat → Nat → Int} {C n g k d x : Nat} {p : Nat → Nat} (n8 : n ≤ 8) (C5 : C ≤ 5) (k2 : k ≤ 2) (hx : x < 2 ^ n) (hA : ∀ c f t, A c f t = -1 ∨ 1 ≤ A c f t) (hS : ∀ c f, A c f f = -1) (hp : ∀ j, j < C → p j < n)
    (ck : ∀ (G : MH) (p : Nat → Nat) (x : Nat), RG fr A C n G → (∀ j, j < C → p j < n ∧ G 114 j = p j) → x < 2 ^ n → Run d 276 0 [vR 97, .inl (x : Int), .inl (g : Int), .inl (k : Int), vU, vU] [] G = some (some (.inl (bi (ckF fr A C n g k p x = true))), G)) {G : MH} (r : RG fr A C n G) (hq : ∀ j, j < C → G 114 j = p j) {c f : Nat} (hc : c < C) (hf : f < n) :
    Run (d + 1) 275 0 [vR 97, .inl (c : Int), .inl (f : Int), .inl (x : Int), .inl (g : Int), .inl ((k : Int) + 1), vU, vU] [] G = some (some (.inl (bi ((decide (A c (p c) f ≠ -1) && ckF fr A C n g k (upN p c f) (nxF p x c f)) = true))), G) := by
  have p8 : 2 ^ n ≤ 2 ^ 8 := Nat.pow_le_pow_right (by omega) n8
  have pc := hp c hc
  have nx := nx_o (p := p) (x := x) (c := c) (f := f) (by omega) (by omega)
  have nl := nx_lt (p := p) (x := x) (c := c) (f := f) hx hf
  rw [q275_0, if_pos (by omega), show ((c : Nat) : Int).toNat = c by omega, hq c hc]
  by_cases q0 : p c = f
  · rw [if_pos (by omega), bi_f]
    rw [q0, hS, decide_eq_false (fun y => y rfl), Bool.false_and]
    exact Bool.false_ne_true
  · have am := am0_1 (A c (p c) f) (hA c (p c) f)
    rw [if_neg (by omega), m_aimOf _ _ (by omega) (by omega) (by omega) (by omega) (by omega) (by omega), cI_some, show ((c : Nat) : Int).toNat = c by omega, show ((p c : Nat) : Int).toNat = p c by omega, show ((f : Nat) : Int).toNat = f by omega, r.a c (p c) f hc pc hf]
    by_cases q1 : A c (p c) f = -1
    · rw [if_neg (fun y => y (am.1.2 q1)), bi_f]
      rw [decide_eq_false (fun y => y q1), Bool.false_and]
      exact Bool.false_ne_true
    · rw [if_pos (fun y => q1 (am.1.1 y)), if_pos (by omega), m_has, cI_some, bit_n (by omega) (by omega), decide_eq_true q1, Bool.true_and, wI_ok (by omega) (by omega), show (k : Int) + 1 - 1 = k by omega]
      have cc := ck (up G 114 c (f : Int)) (upN p c f) (nxF p x c f) (r.up _ _) (fun j hj => by
        unfold upN
        by_cases e : j = c
        · rw [if_pos e, e, up_s]; exact ⟨hf, rfl⟩
        · rw [if_neg e, up_i e]; exact ⟨hp j hj, hq j hj⟩) nl
      have bk : up (up G 114 c (f : Int)) 114 c (p c : Int) = G := by rw [← hq c hc]; exact up_back _ _ _ _
      by_cases q : x.testBit (p c) = true
      · rw [if_pos q] at nx
        rw [bi_t q, if_neg (by omega), nx, cc, cI_some, if_pos (by omega), bk]
        rw [if_pos]
        unfold bi; split <;> simp
      · rw [if_neg q] at nx
        rw [bi_f q, if_pos rfl, nx, cc, cI_some, if_pos (by omega), bk]
        rw [if_pos]
        unfold bi; split <;> simp
theorem m_ck {fr : Nat → Bool} {A : Nat → Nat → Nat → Int} {C n g : Nat} (n8 : n ≤ 8) (C5 : C ≤ 5) (hg : g < n) (hA : ∀ c f t, A c f t = -1 ∨ 1 ≤ A c f t) (hS : ∀ c f, A c f f = -1) :
    ∀ (k d : Nat), k ≤ 3 → ∀ (G : MH) (p : Nat → Nat) (x : Nat), RG fr A C n G → (∀ j, j < C → p j < n ∧ G 114 j = p j) → x < 2 ^ n → Run (d + 2 * k + 1) 276 0 [vR 97, .inl (x : Int), .inl (g : Int), .inl (k : Int), vU, vU] [] G = some (some (.inl (bi (ckF fr A C n g k p x = true))), G) := by
  have p8 : 2 ^ n ≤ 2 ^ 8 := Nat.pow_le_pow_right (by omega) n8
  intro k
  induction k with
  | zero =>
    intro d k3 G p x r hq hx
    rw [q276_0, m_has, cI_some, bit_n (by omega) (by omega)]
    have ez : ckF fr A C n g 0 p x = x.testBit g := rfl
    rw [ez]
    by_cases q : x.testBit g = true
    · rw [bi_t q, if_neg (by omega)]
    · rw [bi_f q, if_pos rfl, if_neg (fun y => y rfl)]
  | succ k ih =>
    intro d k3 G p x r hq hx
    rw [q276_0, m_has, cI_some, bit_n (by omega) (by omega)]
    by_cases q : x.testBit g = true
    · rw [bi_t q, if_neg (by omega), bi_t (ck_g q _)]
    · rw [bi_f q, if_pos rfl, if_pos (by omega)]
      have go : ∀ c f, c < C → f < n → Run (d + 2 * (k + 1)) 275 0 [vR 97, .inl (c : Int), .inl (f : Int), .inl (x : Int), .inl (g : Int), .inl (((k + 1 : Nat) : Int)), vU, vU] [] G = _ := fun c f hc hf => m_go1 (d := d + 2 * k + 1) n8 C5 (by omega) hx hA hS (fun j hj => (hq j hj).1) (ih d (by omega)) r (fun j hj => (hq j hj).2) hc hf
      have outer : ∀ (u c : Nat) (z4 : MV), cat z4 = 1 → c + u = C → (∀ c2 f2, c2 < c → f2 < n → gsF fr A C n g k p x c2 f2 = false) → Run (d + 2 * (k + 1) + 1) 276 19 [vR 97, .inl (x : Int), .inl (g : Int), .inl ((k + 1 : Nat) : Int), .inl (c : Int), z4] [] G = some (some (.inl (bi (ckF fr A C n g (k + 1) p x = true))), G) := by
        intro u
        induction u with
        | zero =>
          intro c z4 c4 hc no
          rw [q276_19 (hz4 := c4), if_pos (by rw [r.c]; omega), bi_f]
          intro z
          rcases ck_iff.1 z with y | ⟨c2, c1, f, f1, y⟩
          · exact q y
          · rw [no c2 f (by omega) f1] at y; cases y
        | succ u ihu =>
          intro c z4 c4 hc no
          rw [q276_19 (hz4 := c4), if_neg (by rw [r.c]; omega)]
          have inner : ∀ (v f : Nat), f + v = n → (∀ f2, f2 < f → gsF fr A C n g k p x c f2 = false) → Run (d + 2 * (k + 1) + 1) 276 31 [vR 97, .inl (x : Int), .inl (g : Int), .inl ((k + 1 : Nat) : Int), .inl (c : Int), .inl (f : Int)] [] G = some (some (.inl (bi (ckF fr A C n g (k + 1) p x = true))), G) := by
            intro v
            induction v with
            | zero =>
              intro f hf no2
              rw [q276_31, if_pos (by rw [r.f]; omega), wI_ok (by omega) (by omega)]
              exact ihu (c + 1) _ rfl (by omega) (fun c2 f2 a1 a2 => by
                by_cases e : c2 = c
                · rw [e]; exact no2 f2 (by omega)
                · exact no c2 f2 (by omega) a2)
            | succ v ihv =>
              intro f hf no2
              rw [q276_31, if_neg (by rw [r.f]; omega), show d + 2 * (k + 1) = d + 2 * k + 1 + 1 by omega, m_frR r _ C5 (by omega), cI_some, ← show d + 2 * (k + 1) = d + 2 * k + 1 + 1 by omega]
              by_cases q1 : fr c = true
              · rw [bi_t q1, if_neg (by omega), go c f (by omega) (by omega), cI_some]
                have eg : gsF fr A C n g k p x c f = (decide (A c (p c) f ≠ -1) && ckF fr A C n g k (upN p c f) (nxF p x c f)) := by unfold gsF; rw [q1, Bool.true_and]
                rw [← eg]
                by_cases q2 : gsF fr A C n g k p x c f = true
                · rw [bi_t q2, if_neg (by omega), bi_t (ck_iff.2 (Or.inr ⟨c, by omega, f, by omega, q2⟩))]
                · rw [bi_f q2, if_pos rfl, wI_ok (by omega) (by omega)]
                  exact ihv (f + 1) (by omega) (fun f2 a1 => by
                    by_cases e : f2 = f
                    · rw [e]; exact Bool.eq_false_iff.2 q2
                    · exact no2 f2 (by omega))
              · rw [bi_f q1, if_pos rfl, wI_ok (by omega) (by omega)]
                exact ihu (c + 1) _ rfl (by omega) (fun c2 f2 a1 a2 => by
                  by_cases e : c2 = c
                  · rw [e]; unfold gsF; rw [Bool.eq_false_iff.2 q1, Bool.false_and]
                  · exact no c2 f2 (by omega) a2)
          exact inner n 0 (by omega) (fun f2 a1 => absurd a1 (by omega))
      exact outer C 0 vU rfl (by omega) (fun c2 f2 a1 => absurd a1 (by omega))
def rlO (P : Nat → Nat → Nat → Bool) (C n : Nat) (w : Int) : Prop := (w = -1 ∧ ∀ k, k < 3 → isFst (P k) C n (-1)) ∨ ∃ (k : Nat) (v : Int), k < 3 ∧ w = 100 * (k + 1) + v ∧ v ≠ -1 ∧ isFst (P k) C n v ∧ ∀ j, j < k → isFst (P j) C n (-1)
theorem fst_b {P : Nat → Nat → Bool} {C n : Nat} {v : Int} (h : isFst P C n v) (C5 : C ≤ 5) (n8 : n ≤ 8) : v = -1 ∨ (0 ≤ v ∧ v < 50) := by
  rcases h with ⟨z, -⟩ | ⟨c, f, z, z1, z2, -⟩
  · exact Or.inl z
  · omega
theorem e_bestRelay {b : Int} {Ws : Nat → WF} {h : MH} (i : InvX b Ws h) {n C g x : Nat} {p : Nat → Nat} (hn : h 2 3 = n) (hC : h 2 4 = C) (hg : g < n) (hx : x < 2 ^ n) (hp : ∀ j, j < C → p j < n ∧ h 91 (6 + j) = p j) (xg : x.testBit g = false) :
    ∃ w H, Run 39 132 0 [vR 9, vR 12, .inl (x : Int), .inl (g : Int), vU, vU] [] h = some (some (.inl w), H) ∧ ERl h H ∧ InvX b Ws H ∧ rlO (fun k => gsF (frF h) (amT Ws h) C n g k p x) C n w := by
  obtain ⟨l1, l2, l3, l4, l5, l6, l7⟩ := lg_n i.1.1
  have n8 : n ≤ 8 := by omega
  have p8 : 2 ^ n ≤ 2 ^ 8 := Nat.pow_le_pow_right (by omega) n8
  have loop : ∀ (r k : Nat) (z3 : MV) (H : MH), cat z3 = 1 → k + r = 3 → gdR b Ws h C p H → ckF (frF h) (amT Ws h) C n g k p x = false → (∀ j, j < k → isFst (gsF (frF h) (amT Ws h) C n g j p x) C n (-1)) → ∃ w H2, Run 39 132 28 [vR 9, vR 12, .inl (x : Int), .inl (g : Int), .inl ((k : Int) + 1), z3] [] H = some (some (.inl w), H2) ∧ ERl h H2 ∧ InvX b Ws H2 ∧ rlO (fun k => gsF (frF h) (amT Ws h) C n g k p x) C n w := by
    intro r
    induction r with
    | zero =>
      intro k z3 H c3 hk gH ck no
      refine ⟨-1, H, ?_, gH.1, gH.2.1, Or.inl ⟨rfl, fun j hj => no j (by omega)⟩⟩
      rw [q132_28 (hz3 := c3), if_pos (by omega)]
    | succ r ih =>
      intro k z3 H c3 hk gH ck no
      by_cases q0 : x = 0
      · subst q0
        refine ⟨-1, H, ?_, gH.1, gH.2.1, Or.inl ⟨rfl, fun j hj => Or.inl ⟨rfl, fun c f _ _ => ?_⟩⟩⟩
        · rw [q132_28 (hz3 := c3), if_neg (by omega), if_pos (by omega)]
        · show gsF (frF h) (amT Ws h) C n g j p 0 c f = false
          unfold gsF
          rw [nx_0, ck_0, Bool.and_false, Bool.and_false]
      · obtain ⟨v, H2, t1, t2, t3⟩ := e_first i hn hC hg k (31 - 2 * k) x p (by omega) hx (fun j hj => (hp j hj).1) ck H gH
        rw [show 31 - 2 * k + 2 * k + 7 = 38 by omega] at t1
        have vb := fst_b t3 (by omega) n8
        have vk := fst_ck t3 xg
        rw [q132_28 (hz3 := c3), if_neg (by omega), if_neg (by omega), t1, cI_some]
        by_cases q : v = -1
        · subst q
          rw [if_pos rfl, wI_ok (by omega) (by omega)]
          exact ih (k + 1) _ H2 rfl (by omega) t2 (vk.1 rfl) (fun j hj => by
            by_cases e : j = k
            · rw [e]; exact t3
            · exact no j (by omega))
        · rw [if_neg q, wI_ok (x := ((k : Int) + 1) * 100) (by omega) (by omega), wI_ok (by omega) (by omega)]
          exact ⟨_, H2, rfl, t2.1, t2.2.1, Or.inr ⟨k, v, by omega, by omega, q, t3, no⟩⟩
  rw [q132_0, bit_n (by omega) (by omega), bi_f (by rw [xg]; exact Bool.false_ne_true), if_pos rfl]
  refine loop 3 0 vU _ rfl (by omega) ⟨fun a a1 a2 a3 a4 a5 => ?_, ?_, fun j hj => ?_⟩ xg (fun j hj => absurd hj (by omega))
  · exact cpy_ne a5
  · have e : Eqv h (cpy h (h 91) 44 6 0 5) := fun x y rr => by rw [cpy_ne (fun z => by subst z; exact Bool.false_ne_true rr)]
    exact e.X i
  · rw [cpy_at]
    show (if 0 ≤ j ∧ j < 0 + 5 then h 91 (6 + (j - 0)) else h 44 j) = _
    rw [if_pos (by omega), show 6 + (j - 0) = 6 + j by omega]
    exact (hp j hj).2
def kwF (N : Nat → Int) (x : Int) : Nat → Nat
  | 0 => 0
  | j + 1 => kwF N x j ||| (if iAnd (iShr (N j) x) 1 = 0 then 0 else 2 ^ j)
theorem kw_lt (N : Nat → Int) (x : Int) : ∀ j, kwF N x j < 2 ^ j
  | 0 => by show 0 < 1; omega
  | j + 1 => by
    have := kw_lt N x j
    have e : 2 ^ j < 2 ^ (j + 1) := Nat.pow_lt_pow_right (by omega) (by omega)
    refine Nat.or_lt_two_pow (by omega) ?_
    split
    · exact Nat.two_pow_pos _
    · exact e
theorem e_fk (d : Nat) (h : MH) {n : Nat} (x : Int) (n8 : n ≤ 8) : Run d 131 0 [vR 12, .inl x, .inl (n : Int), vU, vU] [] h = some (some (.inl ((kwF (fun j => h 91 (29 + j)) x n : Nat) : Int)), h) := by
  have loop : ∀ (r j : Nat), j + r = n → Run d 131 5 [vR 12, .inl x, .inl (n : Int), .inl ((kwF (fun j => h 91 (29 + j)) x j : Nat) : Int), .inl (j : Int)] [] h = some (some (.inl ((kwF (fun j => h 91 (29 + j)) x n : Nat) : Int)), h) := by
    intro r
    induction r with
    | zero => intro j hj; rw [q131_5, if_pos (by omega), show j = n by omega]
    | succ r ih =>
      intro j hj
      have l := kw_lt (fun j => h 91 (29 + j)) x j
      have p1 : 2 ^ j ≤ 2 ^ 8 := Nat.pow_le_pow_right (by omega) (by omega)
      rw [q131_5, if_neg (by omega), wI_ok (x := 29 + (j : Int)) (by omega) (by omega), if_pos (by omega), show (29 + (j : Int)).toNat = 29 + j by omega, wI_ok (by omega) (by omega)]
      refine Eq.trans ?_ (ih (j + 1) (by omega))
      have e : kwF (fun j => h 91 (29 + j)) x (j + 1) = kwF (fun j => h 91 (29 + j)) x j ||| (if iAnd (iShr (h 91 (29 + j)) x) 1 = 0 then 0 else 2 ^ j) := rfl
      rw [e]
      rcases and1 (iShr (h 91 (29 + j)) x) with q | q
      · rw [q, if_pos rfl, Nat.or_zero, shl_0 j (by omega), or_0 (by unfold inI; omega)]
        rfl
      · rw [q, if_neg (by omega), iShl_n j (by omega), iOr_n (by omega) (by omega)]
        rfl
  rw [q131_0]
  exact loop n 0 (by omega)
theorem m_fk (d : Nat) (h : MH) {n : Nat} {N : Nat → Int} (x : Int) (n8 : n ≤ 8) (hn : h 97 26 = n) (hN : ∀ j, j < 8 → h 110 (8 + j) = N j) : Run (d + 1) 274 0 [vR 97, .inl x, vU, vU] [] h = some (some (.inl ((kwF N x n : Nat) : Int)), h) := by
  have loop : ∀ (r j : Nat), j + r = n → Run (d + 1) 274 4 [vR 97, .inl x, .inl ((kwF N x j : Nat) : Int), .inl (j : Int)] [] h = some (some (.inl ((kwF N x n : Nat) : Int)), h) := by
    intro r
    induction r with
    | zero => intro j hj; rw [q274_4, if_pos (by omega), show j = n by omega]
    | succ r ih =>
      intro j hj
      have l := kw_lt N x j
      have p1 : 2 ^ j ≤ 2 ^ 8 := Nat.pow_le_pow_right (by omega) (by omega)
      rw [q274_4, if_neg (by omega), wI_ok (x := 8 + (j : Int)) (by omega) (by omega), if_pos (by omega), show (8 + (j : Int)).toNat = 8 + j by omega, wI_ok (by omega) (by omega), hN j (by omega), m_has, cI_some]
      refine Eq.trans ?_ (ih (j + 1) (by omega))
      have e : kwF N x (j + 1) = kwF N x j ||| (if iAnd (iShr (N j) x) 1 = 0 then 0 else 2 ^ j) := rfl
      rw [e]
      by_cases q : iAnd (iShr (N j) x) 1 = 0
      · rw [if_pos q, if_pos q, Nat.or_zero, or_0 (by unfold inI; omega)]
        rfl
      · rw [if_neg q, if_neg q, iShl_n j (by omega), iOr_n (by omega) (by omega)]
        rfl
  rw [q274_0]
  exact loop n 0 (by omega)
/-- the reference's search -/
theorem m_search {fr : Nat → Bool} {A : Nat → Nat → Nat → Int} {C n g x : Nat} {p : Nat → Nat} (n8 : n ≤ 8) (C5 : C ≤ 5) (hg : g < n) (hx : x < 2 ^ n) (hA : ∀ c f t, A c f t = -1 ∨ 1 ≤ A c f t) (hS : ∀ c f, A c f f = -1) (hp : ∀ j, j < C → p j < n) {G : MH} (r : RG fr A C n G) (hq : ∀ j, j < C → G 114 j = p j) {w y : Int} (o : rlO (fun k => gsF fr A C n g k p x) C n w) (z0 z5 z6 : MV) (c0 : cat z0 = 1) (c5 : cat z5 = 1) (c6 : cat z6 = 1) :
    Run 40 272 97 [vR 97, z0, .inl (g : Int), .inl y, .inl (x : Int), .inl 1, z5, z6] [] G = some (some (.inl (if w = -1 then -1 else if y = 0 then wI (w.tdiv 100) else w.tmod 100)), G) := by
  have go : ∀ k c f : Nat, k < 3 → c < C → f < n → Run 39 275 0 [vR 97, .inl (c : Int), .inl (f : Int), .inl (x : Int), .inl (g : Int), .inl ((k : Int) + 1), vU, vU] [] G = _ := fun k c f hk hc hf => m_go1 (d := 38) (k := k) n8 C5 (by omega) hx hA hS hp (by
    have := m_ck (fr := fr) n8 C5 hg hA hS k (37 - 2 * k) (by omega)
    rw [show 37 - 2 * k + 2 * k + 1 = 38 by omega] at this
    exact this) r hq hc hf
  have row : ∀ (k : Nat) (v : Int), k < 3 → isFst (gsF fr A C n g k p x) C n v → ∀ (q s : Nat) (z6 : MV), cat z6 = 1 → s + q = 10 * C → (v = -1 ∨ (s : Int) ≤ v) → ∃ z5' z6', cat z5' = 1 ∧ cat z6' = 1 ∧ Run 40 272 106 [vR 97, z0, .inl (g : Int), .inl y, .inl (x : Int), .inl ((k : Int) + 1), .inl (s : Int), z6] [] G = if v = -1 then Run 40 272 97 [vR 97, z0, .inl (g : Int), .inl y, .inl (x : Int), .inl ((k : Int) + 2), z5', z6'] [] G else some (some (.inl (if y = 0 then (k : Int) + 1 else v)), G) := by
    intro k v hk fv q
    induction q with
    | zero =>
      intro s z6 c6 hs hv
      have v1 : v = -1 := by
        rcases hv with z | z
        · exact z
        · have := fst_b fv C5 n8
          rcases fv with ⟨z1, -⟩ | ⟨c, f, z1, z2, z3, -⟩
          · exact z1
          · omega
      refine ⟨.inl (s : Int), z6, rfl, c6, ?_⟩
      rw [if_pos v1, q272_106 (hz0 := c0) (hz6 := c6), r.c, wI_ok (by omega) (by omega), if_pos (by omega), wI_ok (by omega) (by omega), show (k : Int) + 1 + 1 = (k : Int) + 2 by omega]
    | succ q ih =>
      intro s z6 c6 hs hv
      obtain ⟨c, f, hcf, hf10⟩ : ∃ c f : Nat, s = 10 * c + f ∧ f < 10 := ⟨s / 10, s % 10, by omega, by omega⟩
      subst hcf
      have nxt : (v = -1 ∨ ((10 * c + f : Nat) : Int) + 1 ≤ v) → ∃ z5' z6', cat z5' = 1 ∧ cat z6' = 1 ∧ Run 40 272 106 [vR 97, z0, .inl (g : Int), .inl y, .inl (x : Int), .inl ((k : Int) + 1), .inl (((10 * c + f : Nat) : Int) + 1), .inl (f : Int)] [] G = if v = -1 then Run 40 272 97 [vR 97, z0, .inl (g : Int), .inl y, .inl (x : Int), .inl ((k : Int) + 2), z5', z6'] [] G else some (some (.inl (if y = 0 then (k : Int) + 1 else v)), G) := fun hv2 => ih (10 * c + f + 1) (.inl (f : Int)) rfl (by omega) (by omega)
      have hno : ∀ {c2 f2 : Nat}, v = 10 * c2 + f2 → f2 < n → (c2 = c ∧ f2 = f) ∨ ((10 * c + f : Nat) : Int) + 1 ≤ v := by
        intro c2 f2 e e2
        by_cases z : v = ((10 * c + f : Nat) : Int)
        · exact Or.inl (by omega)
        · exact Or.inr (by omega)
      rw [q272_106 (hz0 := c0) (hz6 := c6), r.c, wI_ok (x := (C : Int) * 10) (by omega) (by omega), if_neg (by omega), r.f, td_10 hf10, tm_10 hf10, wI_ok (x := ((10 * c + f : Nat) : Int) + 1) (by omega) (by omega), wI_ok (x := (c : Int)) (by omega) (by omega)]
      by_cases q1 : (n : Int) ≤ f
      · rw [if_pos q1]
        refine nxt ?_
        rcases fv with ⟨z1, -⟩ | ⟨c2, f2, z1, z2, z3, -⟩
        · exact Or.inl z1
        · rcases hno z1 z3 with z | z
          · omega
          · exact Or.inr z
      · rw [if_neg q1, m_frR r _ C5 (by omega), cI_some]
        have skip : gsF fr A C n g k p x c f = false → (v = -1 ∨ ((10 * c + f : Nat) : Int) + 1 ≤ v) := by
          intro e
          rcases fv with ⟨z1, -⟩ | ⟨c2, f2, z1, z2, z3, z4, -⟩
          · exact Or.inl z1
          · rcases hno z1 z3 with ⟨rfl, rfl⟩ | z
            · rw [e] at z4; cases z4
            · exact Or.inr z
        by_cases q2 : fr c = true
        · have eg : gsF fr A C n g k p x c f = (decide (A c (p c) f ≠ -1) && ckF fr A C n g k (upN p c f) (nxF p x c f)) := by unfold gsF; rw [q2, Bool.true_and]
          rw [bi_t q2, if_neg (by omega), go k c f hk (by omega) (by omega), cI_some, ← eg]
          by_cases q3 : gsF fr A C n g k p x c f = true
          · have ev : v = ((10 * c + f : Nat) : Int) := by
              rcases fv with ⟨z1, z2⟩ | ⟨c2, f2, z1, z2, z3, z4, z5⟩
              · rw [z2 c f (by omega) (by omega)] at q3; cases q3
              · apply Classical.byContradiction
                intro ne
                have := z5 c f (by omega) (by omega) (by omega)
                rw [q3] at this
                cases this
            refine ⟨vU, vU, rfl, rfl, ?_⟩
            rw [bi_t q3, if_neg (c := (1 : Int) = 0) (by omega), if_neg (c := v = -1) (by omega), ev]
            by_cases qy : y = 0
            · rw [if_neg (fun z => z qy), if_pos qy]
            · rw [if_pos qy, if_neg qy]
          · rw [bi_f q3, if_pos rfl]
            exact nxt (skip (Bool.eq_false_iff.2 q3))
        · rw [bi_f q2, if_pos rfl]
          exact nxt (skip (by unfold gsF; rw [Bool.eq_false_iff.2 q2, Bool.false_and]))
  have main : ∀ (q k : Nat) (z5 z6 : MV), cat z5 = 1 → cat z6 = 1 → k + q = 3 → ((w = -1 ∧ ∀ k, k < 3 → isFst (gsF fr A C n g k p x) C n (-1)) ∨ ∃ (k2 : Nat) (v : Int), k ≤ k2 ∧ k2 < 3 ∧ w = 100 * (k2 + 1) + v ∧ v ≠ -1 ∧ isFst (gsF fr A C n g k2 p x) C n v ∧ ∀ j, j < k2 → isFst (gsF fr A C n g j p x) C n (-1)) → Run 40 272 97 [vR 97, z0, .inl (g : Int), .inl y, .inl (x : Int), .inl ((k : Int) + 1), z5, z6] [] G = some (some (.inl (if w = -1 then -1 else if y = 0 then wI (w.tdiv 100) else w.tmod 100)), G) := by
    intro q
    induction q with
    | zero =>
      intro k z5 z6 c5 c6 hk o
      rcases o with ⟨z1, z2⟩ | ⟨k2, v, z1, z2, -⟩
      · rw [q272_97 (hz0 := c0) (hz5 := c5) (hz6 := c6), if_pos (by omega), if_pos z1]
      · omega
    | succ q ih =>
      intro k z5 z6 c5 c6 hk o
      rw [q272_97 (hz0 := c0) (hz5 := c5) (hz6 := c6), if_neg (by omega)]
      by_cases qk : ∃ v, w = 100 * ((k : Int) + 1) + v ∧ v ≠ -1 ∧ isFst (gsF fr A C n g k p x) C n v
      · obtain ⟨v, v1, v2, v3⟩ := qk
        have vb := fst_b v3 C5 n8
        obtain ⟨z5', z6', d5, d6, u⟩ := row k v (by omega) v3 (10 * C) 0 z6 c6 (by omega) (by omega)
        refine u.trans ?_
        rw [if_neg v2, if_neg (c := w = -1) (by omega)]
        rw [Int.tdiv_eq_ediv_of_nonneg (by omega), Int.tmod_eq_emod_of_nonneg (by omega), wI_ok (by omega) (by omega), show w / 100 = (k : Int) + 1 by omega, show w % 100 = v by omega]
      · have f1 : isFst (gsF fr A C n g k p x) C n (-1) := by
          rcases o with ⟨z1, z2⟩ | ⟨k2, v, z1, z2, z3, z4, z5, z6⟩
          · exact z2 k (by omega)
          · by_cases e : k2 = k
            · subst e; exact absurd ⟨v, z3, z4, z5⟩ qk
            · exact z6 k (by omega)
        obtain ⟨z5', z6', d5, d6, u⟩ := row k (-1) (by omega) f1 (10 * C) 0 z6 c6 (by omega) (Or.inl rfl)
        refine u.trans ?_
        rw [if_pos rfl]
        refine ih (k + 1) z5' z6' d5 d6 (by omega) ?_
        rcases o with z | ⟨k2, v, z1, z2, z3, z4, z5, z6⟩
        · exact Or.inl z
        · refine Or.inr ⟨k2, v, ?_, z2, z3, z4, z5, z6⟩
          by_cases e : k2 = k
          · subst e; exact absurd ⟨v, z3, z4, z5⟩ qk
          · omega
  refine main 3 0 z5 z6 c5 c6 (by omega) ?_
  rcases o with z | ⟨k2, v, z⟩
  · exact Or.inl z
  · exact Or.inr ⟨k2, v, by omega, z⟩
theorem c_relay {b : Int} {Ws : Nat → WF} {h : MH} (i : InvX b Ws h) (x y z : Int) : PrX b b Ws 130 272 [vR 0, .inl x, .inl y, .inl z, vU] [vR 97, .inl x, .inl y, .inl z, vU, vU, vU, vU] h := by
  obtain ⟨l1, l2, l3, l4, l5, l6, l7⟩ := lg_n i.1.1
  have rr := nowR i.1.1
  have o := nowOK i.1.1
  by_cases q0 : (0 ≤ x ∧ x < 6) ∧ (0 ≤ y ∧ y < h 2 3) ∧ (0 ≤ z ∧ z ≤ 1)
  · obtain ⟨qx, qy, qz⟩ := id q0
    obtain ⟨n, hn⟩ := Int.eq_ofNat_of_zero_le l3
    obtain ⟨C, hC⟩ : ∃ C : Nat, h 2 4 = C := ⟨(h 2 4).toNat, by omega⟩
    obtain ⟨g, rfl⟩ := Int.eq_ofNat_of_zero_le qy.1
    have n8 : n ≤ 8 := by omega
    have p8 : 2 ^ n ≤ 2 ^ 8 := Nat.pow_le_pow_right (by omega) n8
    obtain ⟨X, hX⟩ : ∃ X, X = kwF (fun j => h 91 (29 + j)) x n := ⟨_, rfl⟩
    have xl : X < 2 ^ n := by rw [hX]; exact kw_lt _ _ _
    have f1 := e_fk 39 h (n := n) x n8
    rw [← hX] at f1
    have hp : ∀ j, j < C → (h 91 (6 + j)).toNat < n ∧ h 91 (6 + j) = ((h 91 (6 + j)).toNat : Int) := by
      intro j hj
      have := (o.2.1 j (by omega)).1
      omega
    have cls0 : ∀ t : Option (Option MV × MH), cI (Run 39 132 0 [vR 9, vR 12, .inl (X : Int), .inl (g : Int), vU, vU] [] h) (fun a12_ h11_ => (if ¬ a12_ = (-1) then (if ¬ z = 1 then some (some (.inl (wI (a12_.tdiv 100))), h11_) else some (some (.inl (a12_.tmod 100)), h11_)) else some (some (.inl (-1)), h11_))) = t → Run 40 130 0 [vR 0, .inl x, .inl (g : Int), .inl z, vU] [] h = t := by
      intro t ht
      rw [q130_0, e_isNews, cI_some, bi_t qx, if_neg (by omega), e_hasFort, cI_some, bi_t qy, if_neg (by omega), if_neg (by omega), if_pos (by omega), hn, f1, cI_some]
      exact ht
    -- the reference, up to its search
    have ref : ∀ H, ERl h H → InvX b Ws H → ∃ G, Eqv H G ∧ RG (frF h) (amT Ws h) C n G ∧ (∀ j, j < C → G 114 j = ((h 91 (6 + j)).toNat : Int)) ∧ Run 40 272 0 [vR 97, .inl x, .inl (g : Int), .inl z, vU, vU, vU, vU] [] H = if X.testBit g = true then some (some (.inl 0), G) else Run 40 272 97 [vR 97, .inl x, .inl (g : Int), .inl z, .inl (X : Int), .inl 1, vU, vU] [] G := by
      intro H eH iH
      have e1 := (eH.dat (Ws := Ws)).1
      have e2 := (eH.dat (Ws := Ws)).2
      have v3 : Eqv H (up H 97 0 0) := Eqv.up rfl
      have i3 := v3.X iH
      obtain ⟨g1, g2, -⟩ := lg_n i3.1.1
      obtain ⟨G, s1, s2, s3⟩ := m_layAllAims i3 2 (C := C) (by rw [up_ne (by omega), e1, hC])
      have am : amH Ws (up H 97 0 0) = amH Ws h := by rw [v3.am, e2]
      have G1 : G 97 26 = n := by rw [s2.m (npr (by omega)), g1, up_ne (by omega), e1, hn]
      have G2 : G 97 27 = C := by rw [s2.m (npr (by omega)), g2, up_ne (by omega), e1, hC]
      have G3 : G 110 = h 110 := by
        funext j
        rw [s2.V 110 j rfl, up_ne (by omega), eH _ (by omega) (by omega) (by omega) (by omega) (by omega)]
      have rg : RG (frF h) (amT Ws h) C n G := by
        refine ⟨G2, G1, fun c f t hc hf ht => ?_, fun c hc => ?_⟩
        · rw [s3 c f t hc (by rw [up_ne (by omega), e1]; omega) (by omega), am]
          rfl
        · unfold frF
          rw [G3, (rr.2.1 c (by omega)).2.2]
      have f2 := m_fk 38 G (n := n) (N := fun j => h 91 (29 + j)) x n8 G1 (fun j hj => by rw [G3]; exact (rr.1 j hj).2)
      rw [← hX] at f2
      have loop : ∀ (r j : Nat) (K : MH), j + r = C → RG (frF h) (amT Ws h) C n K → K 110 = h 110 → (∀ k, k < j → K 114 k = ((h 91 (6 + k)).toNat : Int)) → Eqv H K → ∃ K2, Eqv H K2 ∧ RG (frF h) (amT Ws h) C n K2 ∧ (∀ k, k < C → K2 114 k = ((h 91 (6 + k)).toNat : Int)) ∧ Run 40 272 51 [vR 97, .inl x, .inl (g : Int), .inl z, .inl (X : Int), .inl (j : Int), vU, vU] [] K = if X.testBit g = true then some (some (.inl 0), K2) else Run 40 272 97 [vR 97, .inl x, .inl (g : Int), .inl z, .inl (X : Int), .inl 1, vU, vU] [] K2 := by
        intro r
        induction r with
        | zero =>
          intro j K hj rK nK hK vK
          refine ⟨K, vK, rK, fun k hk => hK k (by omega), ?_⟩
          rw [q272_51 (hz0 := rfl) (hz5 := rfl) (hz6 := rfl), if_pos (by rw [rK.c]; omega), m_has, cI_some, bit_n (by omega) (by omega)]
          by_cases q : X.testBit g = true
          · rw [bi_t q, if_neg (by omega), if_pos q]
          · rw [bi_f q, if_pos rfl, if_neg q]
        | succ r ih =>
          intro j K hj rK nK hK vK
          have at_ := (rr.2.1 j (by omega)).1
          have hpj := (hp j (by omega)).2
          obtain ⟨K2, w1, w2, w3, w4⟩ := ih (j + 1) (up K 114 j (h 91 (6 + j))) (by omega) (rK.up _ _) (by rw [up_ne (by omega)]; exact nK) (fun k hk => by
            by_cases e : k = j
            · rw [e, up_s]; exact hpj
            · rw [up_i e]; exact hK k (by omega)) (vK.tr (Eqv.up rfl))
          refine ⟨K2, w1, w2, w3, ?_⟩
          rw [← w4, q272_51 (hz0 := rfl) (hz5 := rfl) (hz6 := rfl), if_neg (by rw [rK.c]; omega), m_folk _ _ _ (by omega) (by omega), cI_some, if_pos (by omega), if_pos (by omega), wI_ok (by omega) (by omega), nK, show (16 + 3 * (j : Int)).toNat = 16 + 3 * j by omega, at_, show ((j : Nat) : Int).toNat = j by omega]
          rfl
      obtain ⟨K2, w1, w2, w3, w4⟩ := loop C 0 G (by omega) rg G3 (fun k hk => absurd hk (by omega)) (v3.tr s2.V)
      refine ⟨K2, w1, w2, w3, ?_⟩
      rw [← w4, q272_0, m_isFort, cI_some, g1, up_ne (by omega), e1, hn, bi_t (c := 0 ≤ (g : Int) ∧ (g : Int) < n) (by omega), if_neg (by omega), m_isIn, cI_some, bi_t (by omega), if_neg (by omega), m_isIn, cI_some, bi_t (by omega), if_pos (by omega)]
      refine (congrArg (fun t => cV t _) s1).trans ?_
      rw [cV_some]
      refine (congrArg (fun t => cI t _) f2).trans ?_
      rw [cI_some]
      rfl
    by_cases q : X.testBit g = true
    · obtain ⟨G, u1, u2, u3, u4⟩ := ref h (fun _ _ _ _ _ _ => rfl) i
      refine ⟨0, h, G, cls0 _ ?_, by rw [u4, if_pos q], u1.X i⟩
      rw [q132_0, bit_n (by omega) (by omega), bi_t q, if_neg (by omega), cI_some, if_pos (by omega)]
      split <;> rfl
    · obtain ⟨w, H, r1, r2, r3, r4⟩ := e_bestRelay i (p := fun j => (h 91 (6 + j)).toNat) hn hC (by omega) xl hp (Bool.eq_false_iff.2 q)
      obtain ⟨G, u1, u2, u3, u4⟩ := ref H r2 r3
      refine ⟨if w = -1 then -1 else if z = 0 then wI (w.tdiv 100) else w.tmod 100, H, G, cls0 _ ?_, ?_, u1.X r3⟩
      · rw [r1, cI_some]
        by_cases qw : w = -1
        · rw [if_neg (fun y => y qw), if_pos qw]
        · rw [if_pos qw, if_neg qw]
          by_cases qz0 : z = 0
          · rw [if_pos (by omega), if_pos qz0]
          · rw [if_neg (by omega), if_neg qz0]
      · rw [u4, if_neg q]
        exact m_search n8 (by omega) (by omega) xl (fun c f t => by have := amH_b Ws h c f t; unfold amT; omega) (fun c f => am_self _ _ _ _ _ _ _ _ _ _) (fun j hj => (hp j hj).1) u2 u3 r4 _ _ _ rfl rfl rfl
  · refine Pr_X i (Pr_no i.1.1 (v := -1) ?_ ?_)
    · rw [q130_0, e_isNews, cI_some]
      by_cases q1 : 0 ≤ x ∧ x < 6
      · rw [bi_t q1, if_neg (by omega), e_hasFort, cI_some]
        by_cases q2 : 0 ≤ y ∧ y < h 2 3
        · rw [bi_t q2, if_neg (by omega)]
          by_cases q3 : z < 0
          · rw [if_pos q3]
          · rw [if_neg q3, if_neg (by omega)]
        · rw [bi_f q2, if_pos rfl]
      · rw [bi_f q1, if_pos rfl]
    · rw [q272_0, m_isFort, cI_some, up_i (by omega), l1]
      by_cases q2 : 0 ≤ y ∧ y < h 2 3
      · rw [bi_t q2, if_neg (by omega), m_isIn, cI_some]
        by_cases q1 : 0 ≤ x ∧ x ≤ 5
        · rw [bi_t q1, if_neg (by omega), m_isIn, cI_some, bi_f (by omega), if_neg (by omega)]
        · rw [bi_f q1, if_pos rfl]
      · rw [bi_f q2, if_pos rfl]
