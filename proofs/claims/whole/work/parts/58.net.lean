/-! nets -/
def anF (x y : Nat) : Nat := x ^^^ (x &&& y)
theorem an_bit (x y i : Nat) : (anF x y).testBit i = (x.testBit i && !y.testBit i) := by
  unfold anF
  rw [Nat.testBit_xor, Nat.testBit_and]
  cases x.testBit i <;> cases y.testBit i <;> rfl
theorem an_lt {x y n : Nat} (hx : x < 2 ^ n) : anF x y < 2 ^ n := Nat.xor_lt_two_pow hx (Nat.lt_of_le_of_lt Nat.and_le_left hx)
theorem iAndN {x y : Nat} (hx : x < 2 ^ 31) : iAnd (x : Int) (iXor (y : Int) (-1)) = (anF x y : Int) := by
  show (BitVec.ofInt 32 x &&& BitVec.ofInt 32 ((BitVec.ofInt 32 y ^^^ BitVec.ofInt 32 (-1)).toInt)).toInt = _
  have e : BitVec.ofInt 32 (-1) = BitVec.allOnes 32 := by decide
  rw [BitVec.ofInt_toInt, BitVec.ofInt_natCast, BitVec.ofInt_natCast, e]
  have : (BitVec.ofNat 32 x &&& (BitVec.ofNat 32 y ^^^ BitVec.allOnes 32)) = BitVec.ofNat 32 (anF x y) := by
    apply BitVec.eq_of_getLsbD_eq
    intro i hi
    rw [BitVec.getLsbD_and, BitVec.getLsbD_xor, BitVec.getLsbD_ofNat, BitVec.getLsbD_ofNat, BitVec.getLsbD_ofNat, BitVec.getLsbD_allOnes, an_bit]
    simp only [hi, decide_true, Bool.true_and, Bool.xor_true]
  rw [this]
  exact bv_n (an_lt (n := 31) hx)
theorem iAndC (x y z : Int) : iAnd (iAnd x y) z = iAnd (iAnd x z) y := by
  show (BitVec.ofInt 32 ((BitVec.ofInt 32 x &&& BitVec.ofInt 32 y).toInt) &&& BitVec.ofInt 32 z).toInt = (BitVec.ofInt 32 ((BitVec.ofInt 32 x &&& BitVec.ofInt 32 z).toInt) &&& BitVec.ofInt 32 y).toInt
  rw [BitVec.ofInt_toInt, BitVec.ofInt_toInt, BitVec.and_assoc, BitVec.and_comm (BitVec.ofInt 32 y), ← BitVec.and_assoc]
def orF (p : Nat → Bool) : Nat → Bool
  | 0 => false
  | k + 1 => orF p k || p k
theorem orF_iff (p : Nat → Bool) : ∀ n, orF p n = true ↔ ∃ i, i < n ∧ p i = true
  | 0 => by
    constructor
    · intro z; cases z
    · rintro ⟨i, z, -⟩; omega
  | n + 1 => by
    unfold orF
    rw [Bool.or_eq_true, orF_iff p n]
    constructor
    · rintro (⟨i, z1, z2⟩ | z)
      · exact ⟨i, by omega, z2⟩
      · exact ⟨n, by omega, z⟩
    · rintro ⟨i, z1, z2⟩
      by_cases q : i = n
      · subst q; exact Or.inr z2
      · exact Or.inl ⟨i, by omega, z2⟩
def roF (M : Nat → Nat) (x f : Nat) : Nat := if x.testBit f = true then x ||| M f else x
def rdF (M : Nat → Nat) (x : Nat) : Nat → Nat
  | 0 => x
  | k + 1 => roF M (rdF M x k) k
def rrF (M : Nat → Nat) (n x : Nat) : Nat → Nat
  | 0 => x
  | j + 1 => rdF M (rrF M n x j) n
theorem rd_sub {M : Nat → Nat} {x i : Nat} (h : x.testBit i = true) : ∀ k, (rdF M x k).testBit i = true
  | 0 => h
  | k + 1 => by
    have := rd_sub (M := M) h k
    show (roF M (rdF M x k) k).testBit i = true
    unfold roF
    split
    · rw [Nat.testBit_or, this, Bool.true_or]
    · exact this
theorem rd_lt {M : Nat → Nat} {x n : Nat} (hx : x < 2 ^ n) (hM : ∀ f, f < n → M f < 2 ^ n) : ∀ k, k ≤ n → rdF M x k < 2 ^ n
  | 0, _ => hx
  | k + 1, hk => by
    have := rd_lt hx hM k (by omega)
    show roF M (rdF M x k) k < _
    unfold roF
    split
    · exact Nat.or_lt_two_pow this (hM k (by omega))
    · exact this
theorem rr_lt {M : Nat → Nat} {x n : Nat} (hx : x < 2 ^ n) (hM : ∀ f, f < n → M f < 2 ^ n) : ∀ j, rrF M n x j < 2 ^ n
  | 0 => hx
  | j + 1 => rd_lt (rr_lt hx hM j) hM n (Nat.le_refl n)
theorem cn_sub {p q : Nat → Bool} : ∀ n, (∀ k, k < n → p k = true → q k = true) → cnF p n ≤ cnF q n
  | 0, _ => Nat.le_refl 0
  | n + 1, h => by
    have := cn_sub n (fun k hk => h k (by omega))
    have h2 := h n (by omega)
    unfold cnF
    by_cases a : p n = true
    · rw [if_pos a, if_pos (h2 a)]; omega
    · rw [if_neg a]; split <;> omega
theorem cn_strict {p q : Nat → Bool} {i : Nat} (hp : p i = false) (hq : q i = true) : ∀ n, i < n → (∀ k, k < n → p k = true → q k = true) → cnF p n < cnF q n
  | 0, hi, _ => by omega
  | n + 1, hi, h => by
    have c := cn_sub n (fun k hk => h k (by omega))
    unfold cnF
    by_cases e : i = n
    · subst e
      rw [if_neg (by rw [hp]; exact Bool.false_ne_true), if_pos hq]
      omega
    · have := cn_strict hp hq n (by omega) (fun k hk => h k (by omega))
      have h2 := h n (by omega)
      by_cases a : p n = true
      · rw [if_pos a, if_pos (h2 a)]; omega
      · rw [if_neg a]; split <;> omega
theorem bc_one {s n : Nat} (hs : s < n) : bcN (2 ^ s) n = 1 := by
  have := bc_add (met := 0) (t := s) (Nat.zero_testBit s) n
  rw [Nat.zero_or, if_pos hs] at this
  rw [this]
  have z : ∀ m, bcN 0 m = 0 := by
    intro m
    induction m with
    | zero => rfl
    | succ m ih =>
      unfold bcN at ih ⊢
      unfold cnF
      rw [if_neg (by rw [Nat.zero_testBit]; exact Bool.false_ne_true)]
      exact ih
  rw [z]
theorem rd_grow {M : Nat → Nat} {x n : Nat} (hx : x < 2 ^ n) (hM : ∀ f, f < n → M f < 2 ^ n) (ne : rdF M x n ≠ x) : bcN x n < bcN (rdF M x n) n := by
  have : ∃ i, x.testBit i ≠ (rdF M x n).testBit i := by
    apply Classical.byContradiction
    intro z
    exact ne (Nat.eq_of_testBit_eq fun i => (Classical.byContradiction fun y => z ⟨i, fun w => y w.symm⟩))
  obtain ⟨i, hi⟩ := this
  have hi2 : x.testBit i = false := by
    cases q : x.testBit i
    · rfl
    · rw [q, rd_sub q] at hi; exact absurd rfl hi
  have hi3 : (rdF M x n).testBit i = true := by
    cases q : (rdF M x n).testBit i
    · rw [hi2, q] at hi; exact absurd rfl hi
    · rfl
  have hi4 : i < n := by
    apply Classical.byContradiction
    intro z
    have := Nat.testBit_lt_two_pow (Nat.lt_of_lt_of_le (rd_lt hx hM n (Nat.le_refl n)) (Nat.pow_le_pow_right (by omega) (show n ≤ i by omega)))
    rw [hi3] at this
    cases this
  exact cn_strict hi2 hi3 n hi4 (fun k _ q => rd_sub q n)
theorem rr_end {M : Nat → Nat} {s n : Nat} (hs : s < n) (hM : ∀ f, f < n → M f < 2 ^ n) : rrF M n (2 ^ s) n = rrF M n (2 ^ s) (n - 1) := by
  have hx : 2 ^ s < 2 ^ n := Nat.pow_lt_pow_right (by omega) hs
  have key : ∀ j, rdF M (rrF M n (2 ^ s) j) n = rrF M n (2 ^ s) j ∨ j + 1 ≤ bcN (rrF M n (2 ^ s) j) n := by
    intro j
    induction j with
    | zero => exact Or.inr (by show 0 + 1 ≤ bcN (2 ^ s) n; rw [bc_one hs]; omega)
    | succ j ih =>
      by_cases q : rdF M (rrF M n (2 ^ s) j) n = rrF M n (2 ^ s) j
      · refine Or.inl ?_
        show rdF M (rdF M (rrF M n (2 ^ s) j) n) n = rdF M (rrF M n (2 ^ s) j) n
        rw [q, q]
      · refine Or.inr ?_
        rcases ih with z | z
        · exact absurd z q
        · have := rd_grow (rr_lt hx hM j) hM q
          show j + 1 + 1 ≤ bcN (rdF M (rrF M n (2 ^ s) j) n) n
          omega
  have e : rrF M n (2 ^ s) n = rdF M (rrF M n (2 ^ s) (n - 1)) n := by
    obtain ⟨m, rfl⟩ : ∃ m, n = m + 1 := ⟨n - 1, by omega⟩
    rfl
  rw [e]
  apply Classical.byContradiction
  intro q
  rcases key (n - 1) with z | z
  · exact q z
  · have := rd_grow (rr_lt hx hM (n - 1)) hM q
    have l := cnF_le (fun k => (rdF M (rrF M n (2 ^ s) (n - 1)) n).testBit k) n
    unfold bcN at *
    omega
def goN (w : Int) (gone n : Nat) : Prop := (w = -1 ∧ gone = 0) ∨ ∃ k : Nat, w = k ∧ k < n ∧ gone = 2 ^ k
theorem e_netFrom (d : Nat) (H : MH) {n s gone : Nat} {w : Int} {lk : Nat → Nat} (n8 : n ≤ 8) (hs : s < n) (hn : H 2 3 = n) (hl : ∀ f, f < n → H 43 f = lk f ∧ lk f < 2 ^ n) (hw : goN w gone n) :
    Run d 140 0 [vR 9, .inl (s : Int), .inl w, vU, vU, vU, vU] [] H = some (some (.inl ((rrF (fun f => anF (lk f) gone) n (2 ^ s) (n - 1) : Nat) : Int)), H) := by
  have p8 : 2 ^ n ≤ 2 ^ 8 := Nat.pow_le_pow_right (by omega) n8
  have hM : ∀ f, f < n → (fun f => anF (lk f) gone) f < 2 ^ n := fun f hf => an_lt (hl f hf).2
  have hx : 2 ^ s < 2 ^ n := Nat.pow_lt_pow_right (by omega) hs
  have row : ∀ (r k x m : Nat) (z5 : MV), cat z5 = 1 → x < 2 ^ n → m < n → k + r = n → Run d 140 36 [vR 9, .inl (s : Int), .inl w, .inl (gone : Int), .inl ((rdF (fun f => anF (lk f) gone) x k : Nat) : Int), .inl (m : Int), .inl (k : Int)] [] H = Run d 140 21 [vR 9, .inl (s : Int), .inl w, .inl (gone : Int), .inl ((rdF (fun f => anF (lk f) gone) x n : Nat) : Int), .inl ((m : Int) + 1), .inl (n : Int)] [] H := by
    intro r
    induction r with
    | zero =>
      intro k x m z5 c5 hx2 hm hk
      rw [q140_36 (hz0 := rfl) (hz1 := rfl), if_pos (by omega), wI_ok (by omega) (by omega), show k = n by omega]
    | succ r ih =>
      intro k x m z5 c5 hx2 hm hk
      have l := rd_lt hx2 hM k (by omega)
      rw [← ih (k + 1) x m z5 c5 hx2 hm (by omega), q140_36 (hz0 := rfl) (hz1 := rfl), if_neg (by omega), bit_n (by omega) (by omega), wI_ok (by omega) (by omega)]
      have e : rdF (fun f => anF (lk f) gone) x (k + 1) = roF (fun f => anF (lk f) gone) (rdF (fun f => anF (lk f) gone) x k) k := rfl
      rw [e]
      unfold roF
      by_cases q : (rdF (fun f => anF (lk f) gone) x k).testBit k = true
      · obtain ⟨l1, l2⟩ := hl k (by omega)
        have l3 : anF (lk k) gone < 2 ^ n := hM k (by omega)
        rw [bi_t q, if_neg (by omega), if_pos (by omega), if_pos q, show ((k : Nat) : Int).toNat = k by omega, l1, iAndN (by omega), iOr_n (by omega) (by omega)]
        rfl
      · rw [bi_f q, if_pos rfl, if_neg q, or_0 (by unfold inI; omega)]
        rfl
  have loop : ∀ (r j : Nat) (z5 : MV), cat z5 = 1 → j + r + 1 = n → Run d 140 21 [vR 9, .inl (s : Int), .inl w, .inl (gone : Int), .inl ((rrF (fun f => anF (lk f) gone) n (2 ^ s) j : Nat) : Int), .inl ((j : Int) + 1), z5] [] H = some (some (.inl ((rrF (fun f => anF (lk f) gone) n (2 ^ s) (n - 1) : Nat) : Int)), H) := by
    intro r
    induction r with
    | zero =>
      intro j z5 c5 hj
      rw [q140_21 (hz0 := rfl) (hz1 := rfl) (hz5 := c5), if_pos (by omega), show j = n - 1 by omega]
    | succ r ih =>
      intro j z5 c5 hj
      rw [q140_21 (hz0 := rfl) (hz1 := rfl) (hz5 := c5), if_neg (by omega)]
      refine (row n 0 (rrF (fun f => anF (lk f) gone) n (2 ^ s) j) (j + 1) vU rfl (rr_lt hx hM j) (by omega) (by omega)).trans ?_
      exact ih (j + 1) (.inl (n : Int)) rfl (by omega)
  have fin := loop (n - 1) 0 vU rfl (by omega)
  rw [q140_0, iShl_n s (by omega)]
  rcases hw with ⟨rfl, rfl⟩ | ⟨k, rfl, k1, rfl⟩
  · rw [if_neg (by omega)]
    exact fin
  · rw [if_pos (by omega), iShl_n k (by omega)]
    exact fin
/-! the class' links -/
def ELk (h H : MH) : Prop := ∀ a, a ≠ 23 → a ≠ 30 → a ≠ 38 → a ≠ 39 → a ≠ 43 → H a = h a
theorem ELk.dat {Ws : Nat → WF} {h H : MH} (e : ELk h H) : H 2 = h 2 ∧ amH Ws H = amH Ws h := by
  refine ⟨e _ (by omega) (by omega) (by omega) (by omega) (by omega), ?_⟩
  funext c f to
  unfold amH
  rw [e 6 (by omega) (by omega) (by omega) (by omega) (by omega), e 17 (by omega) (by omega) (by omega) (by omega) (by omega), e 18 (by omega) (by omega) (by omega) (by omega) (by omega), e 2 (by omega) (by omega) (by omega) (by omega) (by omega), e 91 (by omega) (by omega) (by omega) (by omega) (by omega)]
def lkP (Ws : Nat → WF) (h : MH) (f g c : Nat) : Bool := decide (amH Ws h c f g ≠ -1)
/-- the bits of a fort's links -/
def lkR (Ws : Nat → WF) (h : MH) (n C f : Nat) (v : Int) : Prop := ∃ N : Nat, v = N ∧ N < 2 ^ n ∧ ∀ g, N.testBit g = (decide (g < n) && orF (lkP Ws h f g) C)
theorem tb_lt {x n : Nat} (hn : ∀ g, x.testBit g = true → g < n) : x < 2 ^ n := by
  apply Nat.lt_pow_two_of_testBit
  intro g hg
  cases q : x.testBit g
  · rfl
  · have := hn g q; omega
theorem e_link {b : Int} {Ws : Nat → WF} {h : MH} (i : InvX b Ws h) (d : Nat) {n C : Nat} (hn : h 2 3 = n) (hC : h 2 4 = C) :
    ∃ H, Run (d + 6) 139 0 [vR 9, vR 12, vU, vU, vU] [] h = some (none, H) ∧ ELk h H ∧ InvX b Ws H ∧ ∀ f, f < n → lkR Ws h n C f (H 43 f) := by
  obtain ⟨l1, l2, l3, l4, l5, l6, l7⟩ := lg_n i.1.1
  have n8 : n ≤ 8 := by omega
  have p8 : 2 ^ n ≤ 2 ^ 8 := Nat.pow_le_pow_right (by omega) n8
  have one : ∀ (r f c g : Nat) (H : MH) (N : Nat), g + r = n → f < n → c < C → ELk h H → InvX b Ws H → H 43 f = N → (∀ j, N.testBit j = (decide (j < n) && (orF (lkP Ws h f j) c || (decide (j < g) && lkP Ws h f j c)))) →
      ∃ H2 N2, Run (d + 6) 139 36 [vR 9, vR 12, .inl (f : Int), .inl (c : Int), .inl (g : Int)] [] H = Run (d + 6) 139 22 [vR 9, vR 12, .inl (f : Int), .inl ((c : Int) + 1), .inl (n : Int)] [] H2 ∧ ELk h H2 ∧ InvX b Ws H2 ∧ (∀ f2, f2 ≠ f → H2 43 f2 = H 43 f2) ∧ H2 43 f = (N2 : Nat) ∧ (∀ j, N2.testBit j = (decide (j < n) && orF (lkP Ws h f j) (c + 1))) := by
    intro r
    induction r with
    | zero =>
      intro f c g H N hg hf hc eH iH hN hb
      refine ⟨H, N, ?_, eH, iH, fun _ _ => rfl, hN, fun j => ?_⟩
      · rw [q139_36, if_pos (by rw [(eH.dat (Ws := Ws)).1]; omega), wI_ok (by omega) (by omega), show g = n by omega]
      · rw [hb j, show orF (lkP Ws h f j) (c + 1) = (orF (lkP Ws h f j) c || lkP Ws h f j c) from rfl]
        by_cases q : j < n
        · have : j < g := by omega
          simp only [q, this, decide_true, Bool.true_and]
        · simp only [q, decide_false, Bool.false_and]
    | succ r ih =>
      intro f c g H N hg hf hc eH iH hN hb
      have e1 := (eH.dat (Ws := Ws)).1
      have e2 := (eH.dat (Ws := Ws)).2
      obtain ⟨H1, r1, r2, r3⟩ := e_leastPowder iH d (c := (c : Int)) (f := (f : Int)) (to := (g : Int)) (by omega) (by rw [e1]; omega) (by omega) (by rw [e1]; omega) (by omega) (by omega)
      rw [e2] at r1
      have Nlt : N < 2 ^ n := tb_lt fun j q => by
        rw [hb j] at q
        apply Classical.byContradiction
        intro z
        simp only [z, decide_false, Bool.false_and] at q
        cases q
      have pg : 2 ^ g < 2 ^ n := Nat.pow_lt_pow_right (by omega) (by omega)
      have hv : ∃ v : Nat, v = (if amH Ws h c f g = -1 then 0 else 2 ^ g) := ⟨_, rfl⟩
      obtain ⟨v, hv⟩ := hv
      have vlt : v < 2 ^ n := by
        rw [hv]
        split
        · exact Nat.two_pow_pos n
        · exact pg
      have eX : ELk h (up H1 43 f ((N ||| v : Nat) : Int)) := fun a a1 a2 a3 a4 a5 => by rw [up_ne a5, r2 a a1 a2 a3 a4, eH a a1 a2 a3 a4 a5]
      obtain ⟨H2, N2, u1, u2, u3, u4, u5, u6⟩ := ih f c (g + 1) (up H1 43 f ((N ||| v : Nat) : Int)) (N ||| v) (by omega) hf hc eX ((Eqv.up rfl).X r3) (up_s _ _ _ _) (by
        intro j
        rw [Nat.testBit_or, hb j, hv]
        have p : lkP Ws h f g c = decide (amH Ws h c f g ≠ -1) := rfl
        by_cases qa : amH Ws h c f g = -1
        · rw [if_pos qa, Nat.zero_testBit, Bool.or_false]
          by_cases qj : j = g
          · subst qj
            rw [p]
            simp only [qa, ne_eq, not_true_eq_false, decide_false, Bool.and_false]
          · rw [show decide (j < g + 1) = decide (j < g) from decide_eq_decide.2 (by omega)]
        · rw [if_neg qa, Nat.testBit_two_pow]
          by_cases qj : j = g
          · subst qj
            rw [p]
            have : j < n := by omega
            simp only [qa, ne_eq, not_false_eq_true, decide_true, Bool.and_true, Bool.or_true, this, Nat.lt_succ_self]
          · rw [show decide (j < g + 1) = decide (j < g) from decide_eq_decide.2 (by omega), show decide (g = j) = false from decide_eq_false (by omega), Bool.or_false])
      refine ⟨H2, N2, ?_, u2, u3, fun f2 q => ?_, u5, u6⟩
      · rw [← u1, q139_36, if_neg (by rw [e1]; omega), if_pos (by omega)]
        refine (congrArg (fun t => cI t _) r1).trans ?_
        rw [cI_some, show ((f : Nat) : Int).toNat = f by omega, hN, hv, wI_ok (by omega) (by omega)]
        by_cases qa : amH Ws h c f g = -1
        · rw [if_pos qa, if_pos (by omega), if_pos qa, or_0 (by unfold inI; omega), Nat.or_zero]
          rfl
        · rw [if_neg qa, if_pos (by omega), if_neg qa, iShl_n g (by omega), iOr_n (by omega) (by omega)]
          rfl
      · rw [u4 f2 q, up_i q, r2 _ (by omega) (by omega) (by omega) (by omega)]
  have two : ∀ (r f c : Nat) (H : MH) (z : MV), cat z = 1 → c + r = C → f < n → ELk h H → InvX b Ws H → lkR Ws h n c f (H 43 f) →
      ∃ H2 z2, cat z2 = 1 ∧ Run (d + 6) 139 22 [vR 9, vR 12, .inl (f : Int), .inl (c : Int), z] [] H = Run (d + 6) 139 2 [vR 9, vR 12, .inl ((f : Int) + 1), .inl (C : Int), z2] [] H2 ∧ ELk h H2 ∧ InvX b Ws H2 ∧ (∀ f2, f2 ≠ f → H2 43 f2 = H 43 f2) ∧ lkR Ws h n C f (H2 43 f) := by
    intro r
    induction r with
    | zero =>
      intro f c H z cz hc hf eH iH hl
      have : c = C := by omega
      subst this
      refine ⟨H, z, cz, ?_, eH, iH, fun _ _ => rfl, hl⟩
      rw [q139_22 (hz2 := cz), if_pos (by rw [(eH.dat (Ws := Ws)).1]; omega), wI_ok (by omega) (by omega)]
    | succ r ih =>
      intro f c H z cz hc hf eH iH hl
      obtain ⟨N, hN, n1, n2⟩ := hl
      obtain ⟨H1, N2, u1, u2, u3, u4, u5, u6⟩ := one n f c 0 H N (by omega) hf (by omega) eH iH hN (by
        intro j
        rw [n2 j, show decide (j < 0) = false from decide_eq_false (by omega), Bool.false_and, Bool.or_false])
      obtain ⟨H2, z2, c2, v1, v2, v3, v4, v5⟩ := ih f (c + 1) H1 (.inl (n : Int)) rfl (by omega) hf u2 u3 ⟨N2, u5, tb_lt (fun j q => by
        rw [u6 j] at q
        apply Classical.byContradiction
        intro z
        simp only [z, decide_false, Bool.false_and] at q
        cases q), u6⟩
      refine ⟨H2, z2, c2, ?_, v2, v3, fun f2 q => by rw [v4 f2 q, u4 f2 q], v5⟩
      rw [← v1, q139_22 (hz2 := cz), if_neg (by rw [(eH.dat (Ws := Ws)).1]; omega)]
      exact u1
  have three : ∀ (r f : Nat) (H : MH) (z1 z2 : MV), cat z1 = 1 → cat z2 = 1 → f + r = n → ELk h H → InvX b Ws H → (∀ f2, f2 < f → lkR Ws h n C f2 (H 43 f2)) → ∃ H2, Run (d + 6) 139 2 [vR 9, vR 12, .inl (f : Int), z1, z2] [] H = some (none, H2) ∧ ELk h H2 ∧ InvX b Ws H2 ∧ ∀ f2, f2 < n → lkR Ws h n C f2 (H2 43 f2) := by
    intro r
    induction r with
    | zero =>
      intro f H z1 z2 c1 c2 hf eH iH hl
      refine ⟨H, ?_, eH, iH, fun f2 q => hl f2 (by omega)⟩
      rw [q139_2 (hz1 := c1) (hz2 := c2), if_pos (by rw [(eH.dat (Ws := Ws)).1]; omega)]
    | succ r ih =>
      intro f H z1 z2 c1 c2 hf eH iH hl
      have eX : ELk h (up H 43 f 0) := fun a a1 a2 a3 a4 a5 => by rw [up_ne a5, eH a a1 a2 a3 a4 a5]
      obtain ⟨H1, z, cz, u1, u2, u3, u4, u5⟩ := two C f 0 (up H 43 f 0) z2 c2 (by omega) (by omega) eX ((Eqv.up rfl).X iH) ⟨0, by rw [up_s]; rfl, Nat.two_pow_pos n, fun j => by
        rw [Nat.zero_testBit]
        unfold orF
        rw [Bool.and_false]⟩
      obtain ⟨H2, v1, v2, v3, v4⟩ := ih (f + 1) H1 (.inl (C : Int)) z rfl cz (by omega) u2 u3 (fun f2 q => by
        by_cases qf : f2 = f
        · subst qf; exact u5
        · rw [u4 f2 qf, up_i qf]; exact hl f2 (by omega))
      refine ⟨H2, ?_, v2, v3, v4⟩
      rw [← v1, q139_2 (hz1 := c1) (hz2 := c2), if_neg (by rw [(eH.dat (Ws := Ws)).1]; omega), if_pos (by omega), show ((f : Nat) : Int).toNat = f by omega]
      exact u1
  obtain ⟨H, u1, u2, u3, u4⟩ := three n 0 h vU vU rfl rfl (by omega) (fun _ _ _ _ _ _ => rfl) i (fun f2 q => absurd q (by omega))
  exact ⟨H, by rw [q139_0]; exact u1, u2, u3, u4⟩
/-! the reference's nets -/
theorem m_layAllAims {b : Int} {Ws : Nat → WF} {h : MH} (i : InvX b Ws h) (d : Nat) {C : Nat} (hC : h 2 4 = C) :
    ∃ H, Run (d + 37) 273 0 [vR 97, vU] [] h = some (none, H) ∧ EM h H ∧ ∀ c f to : Nat, c < C → (f : Int) < h 2 3 → to < 8 → H 113 (64 * c + 8 * f + to) = am0 (amH Ws h c f to) := by
  obtain ⟨l1, l2, l3, l4, l5, l6, l7⟩ := lg_n i.1.1
  have loop : ∀ (r k : Nat) (H : MH), k + r = C → EM h H → (∀ c f to : Nat, c < k → (f : Int) < h 2 3 → to < 8 → H 113 (64 * c + 8 * f + to) = am0 (amH Ws h c f to)) → ∃ H2, Run (d + 37) 273 2 [vR 97, .inl (k : Int)] [] H = some (none, H2) ∧ EM h H2 ∧ ∀ c f to : Nat, c < C → (f : Int) < h 2 3 → to < 8 → H2 113 (64 * c + 8 * f + to) = am0 (amH Ws h c f to) := by
    intro r
    induction r with
    | zero =>
      intro k H hk eH ha
      refine ⟨H, ?_, eH, fun c f to q => ha c f to (by omega)⟩
      rw [q273_2, if_pos (by rw [eH.m (npr (by omega)), l2]; omega)]
    | succ r ih =>
      intro k H hk eH ha
      have vH := eH.V
      obtain ⟨t1, t2, t3, t4, t5, t6, t7⟩ := vH.dat
      obtain ⟨H1, r1, r2, r3⟩ := m_layAims (vH.B i.1) d (c := (k : Int)) (by omega) (by rw [t5]; omega)
      obtain ⟨H2, u1, u2, u3⟩ := ih (k + 1) H1 (by omega) (eH.tr r2) (fun c f to hc hf ht => by
        by_cases q : c = k
        · subst q
          have := r3.1 f to (by rw [t4]; exact hf) ht
          rw [vH.am] at this
          exact this
        · rw [r3.2 _ (by omega)]
          exact ha c f to (by omega) hf ht)
      refine ⟨H2, ?_, u2, u3⟩
      rw [q273_2, if_neg (by rw [eH.m (npr (by omega)), l2]; omega)]
      refine (congrArg (fun t => cV t _) r1).trans ?_
      rw [cV_some, wI_ok (by omega) (by omega)]
      exact u1
  obtain ⟨H, u1, u2, u3⟩ := loop C 0 h (by omega) (EM.rf h) (fun _ _ _ q => absurd q (by omega))
  exact ⟨H, by rw [q273_0]; exact u1, u2, u3⟩
theorem m_hasAim (d : Nat) (H : MH) {C k g : Nat} {A : Nat → Int} (hC : H 97 27 = C) (C5 : C ≤ 5) (hk : k < 8) (hg : g < 8) (ha : ∀ c, c < C → H 113 (64 * c + 8 * k + g) = am0 (A c)) (hA : ∀ c, A c = -1 ∨ 1 ≤ A c) :
    Run (d + 1) 283 0 [vR 97, .inl (k : Int), .inl (g : Int), vU] [] H = some (some (.inl (bi (orF (fun c => decide (A c ≠ -1)) C = true))), H) := by
  have loop : ∀ (r j : Nat), j + r = C → (∀ c, c < j → A c = -1) → Run (d + 1) 283 2 [vR 97, .inl (k : Int), .inl (g : Int), .inl (j : Int)] [] H = some (some (.inl (bi (orF (fun c => decide (A c ≠ -1)) C = true))), H) := by
    intro r
    induction r with
    | zero =>
      intro j hj hno
      rw [q283_2, if_pos (by omega), bi_f]
      rw [orF_iff]
      rintro ⟨c, c1, c2⟩
      exact of_decide_eq_true c2 (hno c (by omega))
    | succ r ih =>
      intro j hj hno
      have am := am0_1 (A j) (hA j)
      have ab := hA j
      have e := ha j (by omega)
      rw [q283_2, if_neg (by omega), m_aimOf _ _ (by omega) (by omega) (by omega) (by omega) (by omega) (by omega), cI_some, show ((j : Nat) : Int).toNat = j by omega, show ((k : Nat) : Int).toNat = k by omega, show ((g : Nat) : Int).toNat = g by omega, e]
      by_cases q : A j = -1
      · rw [if_pos (by rw [am.1.2 q]; omega), wI_ok (by omega) (by omega)]
        exact ih (j + 1) (by omega) (fun c hc => by
          by_cases z : c = j
          · rw [z]; exact q
          · exact hno c (by omega))
      · rw [if_neg (by rw [am.2 q]; omega), bi_t]
        rw [orF_iff]
        exact ⟨j, by omega, decide_eq_true q⟩
  rw [q283_0]
  exact loop C 0 (by omega) (fun c hc => absurd hc (by omega))
theorem or_mod (x m j : Nat) : x ||| (m % 2 ^ (j + 1)) = if m.testBit j = true then (x ||| (m % 2 ^ j)) ||| 2 ^ j else x ||| (m % 2 ^ j) := by
  apply Nat.eq_of_testBit_eq
  intro i
  by_cases q : m.testBit j = true
  · rw [if_pos q, Nat.testBit_or, Nat.testBit_or, Nat.testBit_or, Nat.testBit_mod_two_pow, Nat.testBit_mod_two_pow, Nat.testBit_two_pow]
    by_cases e : j = i
    · subst e; simp [q]
    · rw [show decide (i < j + 1) = decide (i < j) from decide_eq_decide.2 (by omega), show decide (j = i) = false from decide_eq_false e, Bool.or_false]
  · rw [if_neg q, Nat.testBit_or, Nat.testBit_or, Nat.testBit_mod_two_pow, Nat.testBit_mod_two_pow]
    by_cases e : j = i
    · subst e; simp [q]
    · rw [show decide (i < j + 1) = decide (i < j) from decide_eq_decide.2 (by omega)]
theorem m_netOf (d : Nat) (H : MH) {n s C : Nat} {w : Int} {M : Nat → Nat} {P : Nat → Nat → Bool} (n8 : n ≤ 8) (hs : s < n) (hn : H 97 26 = n) (hM : ∀ f, f < n → M f < 2 ^ n ∧ ∀ g, g < n → (M f).testBit g = (decide ((g : Int) ≠ w) && P f g)) (hP : ∀ f g : Nat, f < n → g < n → Run (d + 1) 283 0 [vR 97, .inl (f : Int), .inl (g : Int), vU] [] H = some (some (.inl (bi (P f g = true))), H)) :
    Run (d + 2) 282 0 [vR 97, .inl (s : Int), .inl w, vU, vU, vU, vU] [] H = some (some (.inl ((rrF M n (2 ^ s) n : Nat) : Int)), H) := by
  have p8 : 2 ^ n ≤ 2 ^ 8 := Nat.pow_le_pow_right (by omega) n8
  have hx : 2 ^ s < 2 ^ n := Nat.pow_lt_pow_right (by omega) hs
  have hM2 : ∀ f, f < n → M f < 2 ^ n := fun f hf => (hM f hf).1
  have cell : ∀ (r g k x m : Nat), x < 2 ^ n → x.testBit k = true → k < n → m < n → g + r = n → Run (d + 2) 282 31 [vR 97, .inl (s : Int), .inl w, .inl ((x ||| (M k % 2 ^ g) : Nat) : Int), .inl (m : Int), .inl (k : Int), .inl (g : Int)] [] H = Run (d + 2) 282 19 [vR 97, .inl (s : Int), .inl w, .inl ((x ||| M k : Nat) : Int), .inl (m : Int), .inl ((k : Int) + 1), .inl (n : Int)] [] H := by
    intro r
    induction r with
    | zero =>
      intro g k x m hx2 hxk hk hm hg
      rw [q282_31 (hz0 := rfl), if_pos (by omega), wI_ok (by omega) (by omega), show g = n by omega, Nat.mod_eq_of_lt (hM2 k hk)]
    | succ r ih =>
      intro g k x m hx2 hxk hk hm hg
      have l : x ||| (M k % 2 ^ g) < 2 ^ n := Nat.or_lt_two_pow hx2 (Nat.lt_of_le_of_lt (Nat.mod_le _ _) (hM2 k hk))
      have pg : 2 ^ g < 2 ^ n := Nat.pow_lt_pow_right (by omega) (by omega)
      have hb := (hM k hk).2 g (by omega)
      rw [← ih (g + 1) k x m hx2 hxk hk hm (by omega), q282_31 (hz0 := rfl), if_neg (by omega), m_has, cI_some, bit_n (by omega) (by omega), bi_t (by rw [Nat.testBit_or, hxk, Bool.true_or]), if_neg (by omega), or_mod, hb, wI_ok (x := (g : Int) + 1) (by omega) (by omega)]
      by_cases q : (g : Int) = w
      · rw [if_pos q, show decide ((g : Int) ≠ w) = false from decide_eq_false (fun z => z q), Bool.false_and, if_neg Bool.false_ne_true]
        rfl
      · rw [if_neg q, show decide ((g : Int) ≠ w) = true from decide_eq_true q, Bool.true_and, hP k g hk (by omega), cI_some]
        by_cases y : P k g = true
        · rw [bi_t y, if_neg (by omega), if_pos y, iShl_n g (by omega), iOr_n (by omega) (by omega)]
          rfl
        · rw [bi_f y, if_pos rfl, if_neg y]
          rfl
  have row : ∀ (r k x m : Nat) (z5 : MV), cat z5 = 1 → x < 2 ^ n → m < n → k + r = n → ∃ z6, cat z6 = 1 ∧ Run (d + 2) 282 19 [vR 97, .inl (s : Int), .inl w, .inl ((rdF M x k : Nat) : Int), .inl (m : Int), .inl (k : Int), z5] [] H = Run (d + 2) 282 7 [vR 97, .inl (s : Int), .inl w, .inl ((rdF M x n : Nat) : Int), .inl ((m : Int) + 1), .inl (n : Int), z6] [] H := by
    intro r
    induction r with
    | zero =>
      intro k x m z5 c5 hx2 hm hk
      refine ⟨z5, c5, ?_⟩
      rw [q282_19 (hz0 := rfl) (hz5 := c5), if_pos (by omega), wI_ok (by omega) (by omega), show k = n by omega]
    | succ r ih =>
      intro k x m z5 c5 hx2 hm hk
      have l := rd_lt hx2 hM2 k (by omega)
      by_cases q : (rdF M x k).testBit k = true
      · obtain ⟨z6, c6, u⟩ := ih (k + 1) x m (.inl (n : Int)) rfl hx2 hm (by omega)
        refine ⟨z6, c6, ?_⟩
        have e : rdF M x (k + 1) = rdF M x k ||| M k := by show roF M (rdF M x k) k = _; unfold roF; rw [if_pos q]
        rw [← u, q282_19 (hz0 := rfl) (hz5 := c5), if_neg (by omega), e]
        have := cell n 0 k (rdF M x k) m l q (by omega) hm (by omega)
        rw [Nat.pow_zero, Nat.mod_one, Nat.or_zero] at this
        exact this
      · obtain ⟨z6, c6, u⟩ := ih (k + 1) x m (.inl 0) rfl hx2 hm (by omega)
        refine ⟨z6, c6, ?_⟩
        have e : rdF M x (k + 1) = rdF M x k := by show roF M (rdF M x k) k = _; unfold roF; rw [if_neg q]
        rw [← u, q282_19 (hz0 := rfl) (hz5 := c5), if_neg (by omega), e, q282_31 (hz0 := rfl), if_neg (by omega), m_has, cI_some, bit_n (by omega) (by omega), bi_f q, if_pos rfl, wI_ok (by omega) (by omega)]
        rfl
  have loop : ∀ (r j : Nat) (z4 z5 : MV), cat z4 = 1 → cat z5 = 1 → j + r = n → Run (d + 2) 282 7 [vR 97, .inl (s : Int), .inl w, .inl ((rrF M n (2 ^ s) j : Nat) : Int), .inl (j : Int), z4, z5] [] H = some (some (.inl ((rrF M n (2 ^ s) n : Nat) : Int)), H) := by
    intro r
    induction r with
    | zero =>
      intro j z4 z5 c4 c5 hj
      rw [q282_7 (hz0 := rfl) (hz4 := c4) (hz5 := c5), if_pos (by omega), show j = n by omega]
    | succ r ih =>
      intro j z4 z5 c4 c5 hj
      obtain ⟨z6, c6, u⟩ := row n 0 (rrF M n (2 ^ s) j) j z5 c5 (rr_lt hx hM2 j) (by omega) (by omega)
      rw [q282_7 (hz0 := rfl) (hz4 := c4) (hz5 := c5), if_neg (by omega)]
      exact u.trans (ih (j + 1) (.inl (n : Int)) z6 rfl c6 (by omega))
  rw [q282_0, iShl_n s (by omega)]
  exact loop n 0 vU vU rfl rfl (by omega)
/-! the calls -/
theorem net_pair {b : Int} {Ws : Nat → WF} {h : MH} (i : InvX b Ws h) {n C : Nat} (hn : h 2 3 = n) (hC : h 2 4 = C) :
    ∃ (H : MH) (lk : Nat → Nat), Run 39 139 0 [vR 9, vR 12, vU, vU, vU] [] h = some (none, H) ∧ ELk h H ∧ InvX b Ws H ∧ (∀ f, f < n → H 43 f = (lk f : Nat) ∧ lk f < 2 ^ n) ∧ ∃ G, Run 39 273 0 [vR 97, vU] [] (up H 97 0 0) = some (none, G) ∧ Eqv (up H 97 0 0) G ∧ (∀ (s gone : Nat) (w : Int), s < n → goN w gone n → Run 39 282 0 [vR 97, .inl (s : Int), .inl w, vU, vU, vU, vU] [] G = some (some (.inl ((rrF (fun f => anF (lk f) gone) n (2 ^ s) (n - 1) : Nat) : Int)), G)) ∧ G 97 26 = n := by
  obtain ⟨l1, l2, l3, l4, l5, l6, l7⟩ := lg_n i.1.1
  obtain ⟨H, r1, r2, r3, r4⟩ := e_link i 33 hn hC
  have e1 := (r2.dat (Ws := Ws)).1
  have e2 := (r2.dat (Ws := Ws)).2
  have v3 : Eqv H (up H 97 0 0) := Eqv.up rfl
  have i3 := v3.X r3
  obtain ⟨G, s1, s2, s3⟩ := m_layAllAims i3 2 (C := C) (by rw [up_ne (by omega), e1, hC])
  have am : amH Ws (up H 97 0 0) = amH Ws h := by rw [v3.am, e2]
  have g1 : G 97 26 = n := by rw [s2.m (npr (by omega)), (lg_n i3.1.1).1, up_ne (by omega), e1, hn]
  have g2 : G 97 27 = C := by rw [s2.m (npr (by omega)), (lg_n i3.1.1).2.1, up_ne (by omega), e1, hC]
  have hlk : ∀ f, f < n → H 43 f = ((H 43 f).toNat : Nat) ∧ (H 43 f).toNat < 2 ^ n ∧ ∀ g, (H 43 f).toNat.testBit g = (decide (g < n) && orF (lkP Ws h f g) C) := by
    intro f hf
    obtain ⟨N, h1, h2, h3⟩ := r4 f hf
    rw [h1, show ((N : Nat) : Int).toNat = N by omega]
    exact ⟨rfl, h2, h3⟩
  refine ⟨H, fun f => (H 43 f).toNat, r1, r2, r3, fun f hf => ⟨(hlk f hf).1, (hlk f hf).2.1⟩, G, s1, s2.V, fun s gone w hs hw => ?_, g1⟩
  rw [← rr_end hs (fun f hf => an_lt (hlk f hf).2.1)]
  refine m_netOf 37 G (C := C) (P := fun f g => orF (lkP Ws h f g) C) (by omega) hs g1 (fun f hf => ⟨an_lt (hlk f hf).2.1, fun g hg => ?_⟩) (fun f g hf hg => ?_)
  · rw [an_bit, (hlk f hf).2.2 g, decide_eq_true hg, Bool.true_and, Bool.and_comm]
    congr 1
    rcases hw with ⟨rfl, rfl⟩ | ⟨k, rfl, k1, rfl⟩
    · rw [Nat.zero_testBit, decide_eq_true (show (g : Int) ≠ -1 by omega)]
      rfl
    · rw [Nat.testBit_two_pow]
      by_cases q : k = g
      · subst q; simp
      · rw [decide_eq_false q, decide_eq_true (show (g : Int) ≠ k by omega)]
        rfl
  · have := m_hasAim 37 G (C := C) (k := f) (g := g) (A := fun c => amH Ws h c f g) g2 (by omega) (by omega) (by omega) (fun c hc => by
      rw [s3 c f g hc (by rw [up_ne (by omega), e1]; omega) (by omega), am]) (fun c => by have := amH_b Ws h c f g; omega)
    exact this
theorem c_net {b : Int} {Ws : Nat → WF} {h : MH} (i : InvX b Ws h) (x : Int) : PrX b b Ws 141 281 [vR 0, .inl x] [vR 97, .inl x] h := by
  obtain ⟨l1, l2, l3, l4, l5, l6, l7⟩ := lg_n i.1.1
  by_cases q0 : 0 ≤ x ∧ x < h 2 3
  · obtain ⟨n, hn⟩ := Int.eq_ofNat_of_zero_le l3
    obtain ⟨C, hC⟩ : ∃ C : Nat, h 2 4 = C := ⟨(h 2 4).toNat, by omega⟩
    obtain ⟨s, rfl⟩ := Int.eq_ofNat_of_zero_le q0.1
    obtain ⟨H, lk, r1, r2, r3, r4, G, s1, s2, s3, s4⟩ := net_pair i hn hC
    have e1 := (r2.dat (Ws := Ws)).1
    have v3 : Eqv H (up H 97 0 0) := Eqv.up rfl
    obtain ⟨g1, -⟩ := lg_n (v3.X r3).1.1
    have lg1 : up H 97 0 0 2 3 = n := by rw [up_a (by omega), e1, hn]
    refine ⟨((rrF (fun f => anF (lk f) 0) n (2 ^ s) (n - 1) : Nat) : Int), H, G, ?_, ?_, (v3.tr s2).X r3⟩
    · rw [q141_0, e_hasFort, cI_some, bi_t q0, if_pos (by omega)]
      refine (congrArg (fun t => cV t _) r1).trans ?_
      rw [cV_some, e_netFrom _ H (by omega) (by omega) (by rw [e1, hn]) r4 (Or.inl ⟨rfl, rfl⟩), cI_some]
    · rw [q281_0, m_isFort, cI_some, g1, lg1, bi_t (c := 0 ≤ (s : Int) ∧ (s : Int) < n) (by omega), if_pos (by omega)]
      refine (congrArg (fun t => cV t _) s1).trans ?_
      rw [cV_some]
      refine (congrArg (fun t => cI t _) (s3 s 0 (-1) (by omega) (Or.inl ⟨rfl, rfl⟩))).trans ?_
      rw [cI_some]
  · refine Pr_X i (Pr_no i.1.1 (v := -1) ?_ ?_)
    · rw [q141_0, e_hasFort, cI_some, bi_f q0, if_neg (by omega)]
    · rw [q281_0, m_isFort, cI_some, up_i (by omega), l1, bi_f q0, if_neg (by omega)]
theorem c_cuts {b : Int} {Ws : Nat → WF} {h : MH} (i : InvX b Ws h) : PrX b b Ws 138 284 [vR 0, vU, vU, vU] [vR 97, vU, vU, vU] h := by
  obtain ⟨l1, l2, l3, l4, l5, l6, l7⟩ := lg_n i.1.1
  by_cases q0 : 0 < h 2 3
  · obtain ⟨n, hn⟩ := Int.eq_ofNat_of_zero_le l3
    obtain ⟨C, hC⟩ : ∃ C : Nat, h 2 4 = C := ⟨(h 2 4).toNat, by omega⟩
    obtain ⟨H, lk, r1, r2, r3, r4, G, s1, s2, s3, s4⟩ := net_pair i hn hC
    have e1 := (r2.dat (Ws := Ws)).1
    have v3 : Eqv H (up H 97 0 0) := Eqv.up rfl
    obtain ⟨g1, -⟩ := lg_n (v3.X r3).1.1
    have lg1 : up H 97 0 0 2 3 = n := by rw [up_a (by omega), e1, hn]
    have w0 : ((rrF (fun f => anF (lk f) 0) n (2 ^ 0) (n - 1) : Nat) : Int) = ((rrF (fun f => anF (lk f) 0) n (2 ^ 0) (n - 1) : Nat) : Int) := rfl
    have loop : ∀ (r f : Nat) (x cut : Int), f + r = n → 1 ≤ f → ∃ v, Run 40 138 37 [vR 0, .inl x, .inl cut, .inl (f : Int)] [] H = some (some (.inl v), H) ∧ Run 40 284 29 [vR 97, .inl x, .inl cut, .inl (f : Int)] [] G = some (some (.inl v), G) := by
      intro r
      induction r with
      | zero =>
        intro f x cut hf h1
        exact ⟨cut, by rw [q138_37, if_pos (by rw [e1, hn]; omega)], by rw [q284_29, if_pos (by omega)]⟩
      | succ r ih =>
        intro f x cut hf h1
        have a1 := e_netFrom 39 H (s := 0) (w := (f : Int)) (gone := 2 ^ f) (by omega) (by omega) (by rw [e1, hn]) r4 (Or.inr ⟨f, rfl, by omega, rfl⟩)
        have a2 := s3 0 (2 ^ f) (f : Int) (by omega) (Or.inr ⟨f, rfl, by omega, rfl⟩)
        have hv : ∃ v, v = ((rrF (fun g => anF (lk g) (2 ^ f)) n (2 ^ 0) (n - 1) : Nat) : Int) := ⟨_, rfl⟩
        obtain ⟨v, hv⟩ := hv
        rw [← hv] at a1 a2
        by_cases q : iAnd (iAnd x (iXor v (-1))) (iXor (iShl 1 (f : Int)) (-1)) = 0
        · obtain ⟨y, y1, y2⟩ := ih (f + 1) x cut (by omega) (by omega)
          refine ⟨y, ?_, ?_⟩
          · rw [← y1, q138_37, if_neg (by rw [e1, hn]; omega)]
            refine (congrArg (fun t => cI t _) a1).trans ?_
            rw [cI_some, if_pos q, wI_ok (by omega) (by omega)]
            rfl
          · rw [← y2, q284_29, if_neg (by omega)]
            refine (congrArg (fun t => cI t _) a2).trans ?_
            rw [cI_some, iAndC, if_pos q, wI_ok (by omega) (by omega)]
            rfl
        · obtain ⟨y, y1, y2⟩ := ih (f + 1) x (iOr cut (iShl 1 (f : Int))) (by omega) (by omega)
          refine ⟨y, ?_, ?_⟩
          · rw [← y1, q138_37, if_neg (by rw [e1, hn]; omega)]
            refine (congrArg (fun t => cI t _) a1).trans ?_
            rw [cI_some, if_neg q, wI_ok (by omega) (by omega)]
            rfl
          · rw [← y2, q284_29, if_neg (by omega)]
            refine (congrArg (fun t => cI t _) a2).trans ?_
            rw [cI_some, iAndC, if_neg q, wI_ok (by omega) (by omega)]
            rfl
    obtain ⟨v, y1, y2⟩ := loop (n - 1) 1 ((rrF (fun f => anF (lk f) 0) n (2 ^ 0) (n - 1) : Nat) : Int) 0 (by omega) (by omega)
    refine ⟨v, H, G, ?_, ?_, (v3.tr s2).X r3⟩
    · rw [q138_0, e_isTold, cI_some, bi_t q0, if_pos (by omega)]
      refine (congrArg (fun t => cV t _) r1).trans ?_
      rw [cV_some]
      refine (congrArg (fun t => cI t _) (e_netFrom 39 H (s := 0) (w := -1) (gone := 0) (by omega) (by omega) (by rw [e1, hn]) r4 (Or.inl ⟨rfl, rfl⟩))).trans ?_
      rw [cI_some]
      exact y1
    · rw [q284_0, if_pos (by rw [g1, lg1]; omega)]
      refine (congrArg (fun t => cV t _) s1).trans ?_
      rw [cV_some]
      refine (congrArg (fun t => cI t _) (s3 0 0 (-1) (by omega) (Or.inl ⟨rfl, rfl⟩))).trans ?_
      rw [cI_some]
      exact y2
  · refine Pr_X i (Pr_no i.1.1 (v := -1) ?_ ?_)
    · rw [q138_0, e_isTold, cI_some, bi_f q0, if_neg (by omega)]
    · rw [q284_0, if_neg (by rw [up_i (by omega), l1]; omega)]
