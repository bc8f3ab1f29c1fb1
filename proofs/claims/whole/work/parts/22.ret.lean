/-! class and reference, call by call -/
theorem bi_congr {c e : Prop} [Decidable c] [Decidable e] (q : c ↔ e) : bi c = bi e := by
  unfold bi
  by_cases h : c
  · rw [if_pos h, if_pos (q.mp h)]
  · rw [if_neg h, if_neg (fun z => h (q.mpr z))]
/-- the places that the laws' worth and the remembered aims hang on -/
def relL (a j : Nat) : Bool := match a with
  | 6 => j == 1
  | 25 => true
  | 26 => true
  | 27 => true
  | 28 => true
  | 29 => true
  | 38 => true
  | 39 => true
  | 2 => j == 3 || j == 4
  | 16 => true
  | 17 => true
  | 18 => true
  | 99 => true
  | 100 => true
  | 97 => j == 7
  | _ => false
def resL (h : MH) : MH := fun a j => if relL a j = true then h a j else 0
theorem resL_up {h : MH} {a j : Nat} {v : Int} (e : relL a j = false) : resL (up h a j v) = resL h := by
  funext x y
  unfold resL
  by_cases q : relL x y = true
  · rw [if_pos q, if_pos q]
    by_cases q1 : x = a
    · by_cases q2 : y = j
      · subst q1; subst q2; rw [e] at q; cases q
      · subst q1; exact up_i q2
    · exact up_a q1
  · rw [if_neg q, if_neg q]
def Pr (b b2 : Int) (kc km : Nat) (ac am : List MV) (h : MH) : Prop := ∃ v h1 h2, Run 40 kc 0 ac [] h = some (some (.inl v), h1) ∧ Run 40 km 0 am [] h1 = some (some (.inl v), h2) ∧ Inv0 b2 h2 ∧ resL h2 = resL h
/-- both return one number -/
def Bo (r s : Option (Option MV × MH)) (h g : MH) : Prop := ∃ v, r = some (some (.inl v), h) ∧ s = some (some (.inl v), g)
theorem Bo_ret {v w : Int} {h g : MH} (e : v = w) : Bo (some (some (.inl v), h)) (some (some (.inl w), g)) h g := ⟨v, rfl, by rw [e]⟩
theorem Pr_ro {b : Int} {kc km : Nat} {ac am : List MV} {h : MH} (i : Inv0 b h) (q : Bo (Run 40 kc 0 ac [] h) (Run 40 km 0 am [] h) h (up h 97 0 0)) : Pr b b kc km ac am h := by
  obtain ⟨v, q1, q2⟩ := q
  exact ⟨v, h, up h 97 0 0, q1, q2, Inv0_res (res_up rfl) i, resL_up rfl⟩
theorem Bo_if {c : Prop} [Decidable c] {r r2 s : Option (Option MV × MH)} {h g : MH} (h1 : c → Bo r s h g) (h2 : ¬ c → Bo r2 s h g) : Bo (if c then r else r2) s h g := by
  by_cases q : c
  · rw [if_pos q]; exact h1 q
  · rw [if_neg q]; exact h2 q
theorem Bo_if2 {c : Prop} [Decidable c] {r s s2 : Option (Option MV × MH)} {h g : MH} (h1 : c → Bo r s h g) (h2 : ¬ c → Bo r s2 h g) : Bo r (if c then s else s2) h g := by
  by_cases q : c
  · rw [if_pos q]; exact h1 q
  · rw [if_neg q]; exact h2 q
/-- two loops side by side -/
theorem Bo_loop {α β : Type} {L : Int → α → Option (Option MV × MH)} {M : Int → β → Option (Option MV × MH)} {P : Int → α → β → Prop} {n : Int} {h g : MH} (he : ∀ i a b, P i a b → n ≤ i → Bo (L i a) (M i b) h g) (hs : ∀ i a b, P i a b → i < n → Bo (L i a) (M i b) h g ∨ ∃ a2 b2, L i a = L (i + 1) a2 ∧ M i b = M (i + 1) b2 ∧ P (i + 1) a2 b2) :
    ∀ i a b, P i a b → Bo (L i a) (M i b) h g := by
  intro i a b hP
  generalize hk : (n - i).toNat = k
  induction k generalizing i a b with
  | zero => exact he i a b hP (by omega)
  | succ k ih =>
    rcases hs i a b hP (by omega) with q | ⟨a2, b2, q1, q2, q3⟩
    · exact q
    · rw [q1, q2]
      exact ih (i + 1) a2 b2 q3 (by omega)
theorem cI_bo {r s : Option (Option MV × MH)} {f : Int → MH → Option (Option MV × MH)} {g : Int → MH → Option (Option MV × MH)} {h h2 h3 h4 : MH} (q : Bo r s h h2) (q2 : ∀ v, Bo (f v h) (g v h2) h3 h4) : Bo (cI r f) (cI s g) h3 h4 := by
  obtain ⟨v, e1, e2⟩ := q
  rw [e1, e2, cI_some, cI_some]
  exact q2 v
theorem cI_id {r : Option (Option MV × MH)} {v : Int} {h : MH} (e : r = some (some (.inl v), h)) : (cI r fun a h => some (some (.inl a), h)) = some (some (.inl v), h) := by rw [e, cI_some]
theorem Bo_id {r s : Option (Option MV × MH)} {h g : MH} (q : Bo r s h g) : Bo (cI r fun a h => some (some (.inl a), h)) (cI s fun a h => some (some (.inl a), h)) h g := by
  obtain ⟨v, e1, e2⟩ := q
  exact ⟨v, cI_id e1, cI_id e2⟩
theorem Bo_idl {r s : Option (Option MV × MH)} {h g : MH} (q : Bo r s h g) : Bo (cI r fun a h => some (some (.inl a), h)) s h g := by
  obtain ⟨v, e1, e2⟩ := q
  exact ⟨v, cI_id e1, e2⟩
/-! what the invariant says, in numbers -/
def lgN (h : MH) : Prop := h 97 26 = h 2 3 ∧ h 97 27 = h 2 4 ∧ 0 ≤ h 2 3 ∧ h 2 3 ≤ 8 ∧ 0 ≤ h 2 4 ∧ h 2 4 ≤ 5 ∧ (h 2 3 = 0 ↔ h 2 4 = 0)
theorem lg_n {b : Int} {h : MH} (i : Inv0 b h) : lgN h := by
  obtain ⟨-, -, ⟨e1, e2, e3, -⟩, -⟩ := (Inv0_iff b h).mp i
  refine ⟨e1, e2, ?_⟩
  rcases e3 with ⟨q1, q2⟩ | ⟨q1, q2, -⟩ <;> omega
theorem lg_ok {b : Int} {h : MH} (i : Inv0 b h) (q : h 2 3 ≠ 0) : lgOK (h 2 3) (h 2 4) (h 16) (h 17) (h 18) := by
  obtain ⟨-, -, ⟨e1, e2, e3, -⟩, -⟩ := (Inv0_iff b h).mp i
  rcases e3 with ⟨q1, q2⟩ | q1
  · exact absurd q1 q
  · exact q1
theorem lg_rule {b : Int} {h : MH} (i : Inv0 b h) (j : Nat) (hj : j < 4) : h 102 j = h 16 j := ((Inv0_iff b h).mp i).2.2.1.2.2.2.1 j hj
theorem lg_fort {b : Int} {h : MH} (i : Inv0 b h) (x : Int) (h0 : 0 ≤ x) (h1 : x < 3 * h 2 3) : h 104 x.toNat = h 17 x.toNat := ((Inv0_iff b h).mp i).2.2.1.2.2.2.2.1 x.toNat (by omega)
theorem lg_carrier {b : Int} {h : MH} (i : Inv0 b h) (x : Int) (h0 : 0 ≤ x) (h1 : x < 3 * h 2 4) : h 106 x.toNat = h 18 x.toNat := ((Inv0_iff b h).mp i).2.2.1.2.2.2.2.2 x.toNat (by omega)
theorem nowR {b : Int} {h : MH} (i : Inv0 b h) : stR (h 91) (h 110) := by
  obtain ⟨-, -, -, ⟨L, M, ⟨q, -⟩, -⟩, -⟩ := (Inv0_iff b h).mp i
  exact q
theorem nowOK {b : Int} {h : MH} (i : Inv0 b h) : stOK (h 2 3) (h 2 4) b (h 91) := by
  obtain ⟨-, -, -, ⟨L, M, ⟨-, q, -⟩, -⟩, -⟩ := (Inv0_iff b h).mp i
  exact q
theorem st_hay {c v : Nat → Int} (r : stR c v) (x : Int) (h0 : 0 ≤ x) (h1 : x < 8) : v x.toNat = c (21 + x).toNat := by
  rw [show (21 + x).toNat = 21 + x.toNat by omega]
  exact (r.1 x.toNat (by omega)).1
theorem st_news {c v : Nat → Int} (r : stR c v) (x : Int) (h0 : 0 ≤ x) (h1 : x < 8) : v (8 + x).toNat = c (29 + x).toNat := by
  rw [show (29 + x).toNat = 29 + x.toNat by omega, show (8 + x).toNat = 8 + x.toNat by omega]
  exact (r.1 x.toNat (by omega)).2
theorem st_at {c v : Nat → Int} (r : stR c v) (x : Int) (h0 : 0 ≤ x) (h1 : x < 5) : v (16 + 3 * x).toNat = c (6 + x).toNat := by
  rw [show (6 + x).toNat = 6 + x.toNat by omega, show (16 + 3 * x).toNat = 16 + 3 * x.toNat by omega]
  exact (r.2.1 x.toNat (by omega)).1
theorem st_hurt {c v : Nat → Int} (r : stR c v) (x : Int) (h0 : 0 ≤ x) (h1 : x < 5) : v (16 + 3 * x + 1).toNat = c (11 + x).toNat := by
  rw [show (11 + x).toNat = 11 + x.toNat by omega, show (16 + 3 * x + 1).toNat = 17 + 3 * x.toNat by omega]
  exact (r.2.1 x.toNat (by omega)).2.1
theorem st_late {c v : Nat → Int} (r : stR c v) (x : Int) (h0 : 0 ≤ x) (h1 : x < 5) : v (16 + 3 * x + 2).toNat = c (16 + x).toNat := by
  rw [show (16 + x).toNat = 16 + x.toNat by omega, show (16 + 3 * x + 2).toNat = 18 + 3 * x.toNat by omega]
  exact (r.2.1 x.toNat (by omega)).2.2
theorem so_hay {f k b : Int} {c : Nat → Int} (r : stOK f k b c) (x : Int) (h0 : 0 ≤ x) (h1 : x < 8) : 0 ≤ c (21 + x).toNat ∧ c (21 + x).toNat ≤ 9 := by
  rw [show (21 + x).toNat = 21 + x.toNat by omega]
  by_cases q : x < f
  · exact (r.2.2.2.1 x.toNat (by omega)).1
  · have := (r.2.2.2.2 x.toNat (by omega) (by omega)).1
    omega
theorem so_news {f k b : Int} {c : Nat → Int} (r : stOK f k b c) (x : Int) (h0 : 0 ≤ x) (h1 : x < 8) : 0 ≤ c (29 + x).toNat ∧ c (29 + x).toNat ≤ 63 := by
  rw [show (29 + x).toNat = 29 + x.toNat by omega]
  by_cases q : x < f
  · exact (r.2.2.2.1 x.toNat (by omega)).2
  · have := (r.2.2.2.2 x.toNat (by omega) (by omega)).2
    omega
theorem so_at {f k b : Int} {c : Nat → Int} (r : stOK f k b c) (x : Int) (h0 : 0 ≤ x) (h1 : x < k) : 0 ≤ c (6 + x).toNat ∧ c (6 + x).toNat < f := by
  rw [show (6 + x).toNat = 6 + x.toNat by omega]
  exact (r.2.1 x.toNat (by omega)).1
theorem so_hurt {f k b : Int} {c : Nat → Int} (r : stOK f k b c) (x : Int) (h0 : 0 ≤ x) (h1 : x < 5) : 0 ≤ c (11 + x).toNat ∧ c (11 + x).toNat ≤ 99 := by
  rw [show (11 + x).toNat = 11 + x.toNat by omega]
  by_cases q : x < k
  · exact (r.2.1 x.toNat (by omega)).2.1
  · have := (r.2.2.1 x.toNat (by omega) (by omega)).2.1
    omega
theorem so_late {f k b : Int} {c : Nat → Int} (r : stOK f k b c) (x : Int) (h0 : 0 ≤ x) (h1 : x < 5) : 0 ≤ c (16 + x).toNat ∧ c (16 + x).toNat ≤ 2 := by
  rw [show (16 + x).toNat = 16 + x.toNat by omega]
  by_cases q : x < k
  · exact (r.2.1 x.toNat (by omega)).2.2
  · have := (r.2.2.1 x.toNat (by omega) (by omega)).2.2
    omega
/-! what the league tells -/
/-- the reference's rows are the class' -/
theorem m_free (d : Nat) (x : Int) (h : MH) (h0 : 0 ≤ x) (h1 : x < 5) : Run (d + 1) 228 0 [vR 97, vR 110, .inl x] [] h = some (some (.inl (bi (x < h 97 27 ∧ h 110 (16 + 3 * x + 2).toNat = 0))), h) := by
  rw [q228_0, m_isCarrier, cI_some, m_folk _ _ _ h0 (by omega), cI_some, wI_ok (by omega) (by omega), if_pos (c := 0 ≤ 16 + 3 * x + 2 ∧ _) (by omega)]
  simp only [bi_0, if_bi2, Classical.not_not, if_bi3]
  rw [bi_congr (e := x < h 97 27 ∧ h 110 (16 + 3 * x + 2).toNat = 0) (by constructor <;> intro _ <;> omega)]
theorem e_place (d : Nat) (x : Int) (h : MH) (h0 : 0 ≤ x) (h1 : x < 8) : Run d 18 0 [vR 2, .inl x] [] h = some (some (.inl (h 17 (3 * x).toNat)), h) := by
  rw [q18_0, wI_ok (by omega) (by omega), if_pos (by omega), Int.mul_comm]
theorem e_height (d : Nat) (x : Int) (h : MH) (h0 : 0 ≤ x) (h1 : x < 8) : Run d 64 0 [vR 2, .inl x] [] h = some (some (.inl (h 17 (3 * x + 1).toNat)), h) := by
  rw [q64_0, wI_ok (x := x * 3) (by omega) (by omega), wI_ok (by omega) (by omega), if_pos (by omega), Int.mul_comm]
theorem e_weight (d : Nat) (x : Int) (h : MH) (h0 : 0 ≤ x) (h1 : x < 5) : Run d 82 0 [vR 2, .inl x] [] h = some (some (.inl (h 18 (3 * x).toNat)), h) := by
  rw [q82_0, wI_ok (by omega) (by omega), if_pos (by omega), Int.mul_comm]
theorem e_nerve (d : Nat) (x : Int) (h : MH) (h0 : 0 ≤ x) (h1 : x < 5) : Run d 83 0 [vR 2, .inl x] [] h = some (some (.inl (h 18 (3 * x + 1).toNat)), h) := by
  rw [q83_0, wI_ok (x := x * 3) (by omega) (by omega), wI_ok (by omega) (by omega), if_pos (by omega), Int.mul_comm]
theorem m_place (d : Nat) (x : Int) (h : MH) (h0 : 0 ≤ x) (h1 : x < 8) : Run d 234 0 [vR 97, .inl x] [] h = some (some (.inl (h 104 (3 * x).toNat)), h) := by
  rw [q234_0, wI_ok (by omega) (by omega), if_pos (by omega)]
theorem m_told (d : Nat) (x y : Int) (h : MH) (h0 : 0 ≤ x) (h1 : x < 5) (h2 : 0 ≤ y) (h3 : y < 3) : Run d 223 0 [vR 97, .inl x, .inl y] [] h = some (some (.inl (h 106 (3 * x + y).toNat)), h) := by
  rw [q223_0, wI_ok (x := 3 * x) (by omega) (by omega), wI_ok (by omega) (by omega), if_pos (by omega)]
theorem e_has (d : Nat) (x : Int) (h : MH) : Run d 114 0 [vR 7, .inl x] [] h = some (some (.inl (bi (0 ≤ x ∧ x < h 7 1))), h) := by
  rw [q114_0, if_bi2, if_bi3]
  congr 4
  simp
theorem m_isPlan (d : Nat) (x : Int) (h : MH) : Run d 254 0 [vR 97, .inl x] [] h = some (some (.inl (bi (0 ≤ x ∧ x < h 97 30))), h) := by
  rw [q254_0, if_bi2, if_bi3]
  congr 4
  simp
