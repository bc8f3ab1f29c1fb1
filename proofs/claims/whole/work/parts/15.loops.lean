/-! loops -/
/-- k rounds from i on -/
def itF {α : Type} (f : Int → α → α) : Nat → Int → α → α
  | 0, _, a => a
  | k + 1, i, a => itF f k (i + 1) (f i a)
theorem for_loop {α ρ : Type} {L : Int → α → ρ} {fin : α → ρ} {f : Int → α → α} {P : Int → α → Prop} {n : Int} (he : ∀ i a, P i a → n ≤ i → L i a = fin a) (hs : ∀ i a, P i a → i < n → L i a = L (i + 1) (f i a) ∧ P (i + 1) (f i a)) :
    ∀ i a, P i a → L i a = fin (itF f (n - i).toNat i a) := by
  intro i a hP
  generalize hk : (n - i).toNat = k
  induction k generalizing i a with
  | zero => exact he i a hP (by omega)
  | succ k ih =>
    obtain ⟨h1, h2⟩ := hs i a hP (by omega)
    rw [h1]
    exact ih (i + 1) (f i a) h2 (by omega)
theorem itF_inv {α : Type} {f : Int → α → α} {P : Int → α → Prop} {n : Int} (hs : ∀ i a, P i a → i < n → P (i + 1) (f i a)) : ∀ (k : Nat) (i : Int) (a : α), P i a → i + k ≤ n → P (i + k) (itF f k i a) := by
  intro k
  induction k with
  | zero => intro i a h _; simpa [itF] using h
  | succ k ih =>
    intro i a h hk
    have := ih (i + 1) (f i a) (hs i a h (by omega)) (by omega)
    rw [show i + ((k + 1 : Nat) : Int) = i + 1 + (k : Int) by omega]
    exact this
theorem itF_congr {α β : Type} {f : Int → α → α} {g : Int → β → β} {P : Int → α → β → Prop} {n : Int} (hs : ∀ i a b, P i a b → i < n → P (i + 1) (f i a) (g i b)) : ∀ (k : Nat) (i : Int) (a : α) (b : β), P i a b → i + k ≤ n → P (i + k) (itF f k i a) (itF g k i b) := by
  intro k
  induction k with
  | zero => intro i a b h _; simpa [itF] using h
  | succ k ih =>
    intro i a b h hk
    have := ih (i + 1) (f i a) (g i b) (hs i a b h (by omega)) (by omega)
    rw [show i + ((k + 1 : Nat) : Int) = i + 1 + (k : Int) by omega]
    exact this
/-- the first that leaves -/
def fnF {ρ : Type} (ex : Int → Option ρ) (fin : ρ) : Nat → Int → ρ
  | 0, _ => fin
  | k + 1, i => match ex i with
    | some r => r
    | none => fnF ex fin k (i + 1)
theorem find_loop {ρ : Type} {L : Int → ρ} {fin : ρ} {ex : Int → Option ρ} {P : Int → Prop} {n : Int} (he : ∀ i, P i → n ≤ i → L i = fin) (hs : ∀ i, P i → i < n → (∀ r, ex i = some r → L i = r) ∧ (ex i = none → L i = L (i + 1)) ∧ P (i + 1)) : ∀ i, P i → L i = fnF ex fin (n - i).toNat i := by
  intro i hP
  generalize hk : (n - i).toNat = k
  induction k generalizing i with
  | zero => exact he i hP (by omega)
  | succ k ih =>
    obtain ⟨h1, h2, h3⟩ := hs i hP (by omega)
    unfold fnF
    cases e : ex i with
    | some r => exact h1 r e
    | none => rw [h2 e]; exact ih (i + 1) h3 (by omega)
theorem wI_ok {x : Int} (h1 : -2147483648 ≤ x) (h2 : x ≤ 2147483647) : wI x = x := wI_id ⟨h1, h2⟩
/-! sums of the state's cells -/
theorem e_sumOf (d : Nat) (x n : Int) (h : MH) (hx : 0 ≤ x) (hn : x + n ≤ 37) (hb : ∀ j, j < 37 → 0 ≤ h 91 j ∧ h 91 j ≤ 1000) :
    Run d 68 0 [.inr (.inr (.inl 12)), .inl x, .inl n, vU, vU] [] h = some (some (.inl (itF (fun i a => a + h 91 (x + i).toNat) n.toNat 0 0)), h) := by
  rw [q68_0]
  have key := for_loop (L := fun i a => Run d 68 5 [.inr (.inr (.inl 12)), .inl x, .inl n, .inl a, .inl i] [] h) (fin := fun a => some (some (.inl a), h)) (f := fun i a => a + h 91 (x + i).toNat) (P := fun i a => 0 ≤ i ∧ 0 ≤ a ∧ a ≤ 1000 * i) (n := n)
    (fun i a hP hi => by
      show Run d 68 5 _ [] h = _
      rw [q68_5, if_pos hi])
    (fun i a hP hi => by
      obtain ⟨h0, h1, h2⟩ := hP
      have e1 : wI (x + i) = x + i := wI_ok (by omega) (by omega)
      have hc := hb (x + i).toNat (by omega)
      refine ⟨?_, by omega, by show 0 ≤ a + _; omega, by show a + _ ≤ _; omega⟩
      show Run d 68 5 _ [] h = Run d 68 5 _ [] h
      rw [q68_5, if_neg (by omega), e1, if_pos (by omega), wI_ok (x := i + 1) (by omega) (by omega), wI_ok (x := a + _) (by omega) (by omega)])
    0 0 ⟨by omega, by omega, by omega⟩
  rw [show (n - 0).toNat = n.toNat by omega] at key
  exact key
theorem m_sumHay (d : Nat) (x : Int) (h : MH) (hn : h 97 26 ≤ 8) (hb : ∀ j, j < 37 → 0 ≤ h 110 j ∧ h 110 j ≤ 1000) :
    Run (d + 1) 306 120 [.inr (.inr (.inl 97)), .inl x, .inl 0, .inl 0] [] h = some (some (.inl (itF (fun i a => a + h 110 i.toNat) (h 97 26).toNat 0 0)), h) := by
  have key := for_loop (L := fun i a => Run (d + 1) 306 120 [.inr (.inr (.inl 97)), .inl x, .inl a, .inl i] [] h) (fin := fun a => some (some (.inl a), h)) (f := fun i a => a + h 110 i.toNat) (P := fun i a => 0 ≤ i ∧ 0 ≤ a ∧ a ≤ 1000 * i) (n := h 97 26)
    (fun i a hP hi => by
      show Run (d + 1) 306 120 _ [] h = _
      rw [q306_120 (hz0 := rfl), if_pos hi])
    (fun i a hP hi => by
      obtain ⟨h0, h1, h2⟩ := hP
      have e1 : wI (0 + i) = i := by rw [wI_ok (by omega) (by omega)]; omega
      have hc := hb i.toNat (by omega)
      refine ⟨?_, by omega, by show 0 ≤ a + _; omega, by show a + _ ≤ _; omega⟩
      show Run (d + 1) 306 120 _ [] h = Run (d + 1) 306 120 _ [] h
      rw [q306_120 (hz0 := rfl), if_neg (by omega), e1, if_pos (by omega), wI_ok (x := i + 1) (by omega) (by omega), wI_ok (x := a + _) (by omega) (by omega)])
    0 0 ⟨by omega, by omega, by omega⟩
  rw [show (h 97 26 - 0).toNat = (h 97 26).toNat by omega] at key
  exact key
theorem m_folk (d : Nat) (x : Int) (h : MH) (h0 : 0 ≤ x) (h1 : x ≤ 100) : Run d 217 0 [.inl x] [] h = some (some (.inl (16 + 3 * x)), h) := by
  rw [q217_0, wI_ok (x := 3 * x) (by omega) (by omega), wI_ok (by omega) (by omega)]
theorem m_sumHurt (d : Nat) (x : Int) (h : MH) (hn : h 97 27 ≤ 5) (hb : ∀ j, j < 37 → 0 ≤ h 110 j ∧ h 110 j ≤ 1000) :
    Run (d + 1) 306 149 [.inr (.inr (.inl 97)), .inl x, .inl 0, .inl 0] [] h = some (some (.inl (itF (fun i a => a + h 110 (17 + 3 * i).toNat) (h 97 27).toNat 0 0)), h) := by
  have key := for_loop (L := fun i a => Run (d + 1) 306 149 [.inr (.inr (.inl 97)), .inl x, .inl a, .inl i] [] h) (fin := fun a => some (some (.inl a), h)) (f := fun i a => a + h 110 (17 + 3 * i).toNat) (P := fun i a => 0 ≤ i ∧ 0 ≤ a ∧ a ≤ 1000 * i) (n := h 97 27)
    (fun i a hP hi => by
      show Run (d + 1) 306 149 _ [] h = _
      rw [q306_149 (hz0 := rfl), if_pos hi])
    (fun i a hP hi => by
      obtain ⟨h0, h1, h2⟩ := hP
      have hc := hb (17 + 3 * i).toNat (by omega)
      refine ⟨?_, by omega, by show 0 ≤ a + _; omega, by show a + _ ≤ _; omega⟩
      show Run (d + 1) 306 149 _ [] h = Run (d + 1) 306 149 _ [] h
      have e1 : wI (16 + 3 * i + 1) = 17 + 3 * i := by rw [wI_ok (by omega) (by omega)]; omega
      rw [q306_149 (hz0 := rfl), if_neg (by omega), m_folk d i h (by omega) (by omega), cI_some, e1, if_pos (by omega), wI_ok (x := i + 1) (by omega) (by omega), wI_ok (x := a + _) (by omega) (by omega)])
    0 0 ⟨by omega, by omega, by omega⟩
  rw [show (h 97 27 - 0).toNat = (h 97 27).toNat by omega] at key
  exact key
