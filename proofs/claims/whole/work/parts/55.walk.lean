/-! walks over forts -/
def Wk (A : Nat → Nat → Int) (n s : Nat) : Nat → Nat → Int → Int → Prop
  | 0, f, c, r => f = s ∧ c = 0 ∧ r = 0
  | k + 1, t, c, r => t < n ∧ ∃ f c0 r0, Wk A n s k f c0 r0 ∧ A f t ≠ -1 ∧ c = c0 + A f t ∧ r = 10 * r0 + t
def lx (c r c2 r2 : Int) : Prop := c < c2 ∨ (c = c2 ∧ r ≤ r2)
theorem Wk_lt {A : Nat → Nat → Int} {n s : Nat} (hs : s < n) : ∀ {k f : Nat} {c r : Int}, Wk A n s k f c r → f < n
  | 0, f, c, r, h => by have : f = s := h.1; omega
  | k + 1, t, c, r, h => h.1
def noW (A : Nat → Nat → Int) (n s t m : Nat) : Prop := ∀ k, k ≤ m → ∀ c r, ¬ Wk A n s k t c r
/-- the fewest hops, then the least powder, then the lowest row -/
def Bst (A : Nat → Nat → Int) (n s t k : Nat) (c r : Int) : Prop := Wk A n s k t c r ∧ (∀ j, j < k → ∀ c r, ¬ Wk A n s j t c r) ∧ ∀ c2 r2, Wk A n s k t c2 r2 → lx c r c2 r2
def lvI (A : Nat → Nat → Int) (n s m t : Nat) (hp co ro : Nat → Int) : Prop := (hp t = -1 ∧ noW A n s t m) ∨ ∃ k : Nat, k ≤ m ∧ hp t = k ∧ Bst A n s t k (co t) (ro t)
/-- behind the forts below b, at a fort that no m - 1 hops lead to -/
def inQ (A : Nat → Nat → Int) (n s m t b : Nat) (hp co ro : Nat → Int) : Prop := noW A n s t (m - 1) ∧ ((hp t = -1 ∧ ∀ f, f < b → hp f = (m : Int) - 1 → A f t = -1) ∨ (hp t = m ∧ (∃ f, f < b ∧ hp f = (m : Int) - 1 ∧ A f t ≠ -1 ∧ co t = co f + A f t ∧ ro t = 10 * ro f + t) ∧ ∀ f, f < b → hp f = (m : Int) - 1 → A f t ≠ -1 → lx (co t) (ro t) (co f + A f t) (10 * ro f + t)))
theorem Wk_prev {A : Nat → Nat → Int} {n s m t : Nat} {hp co ro : Nat → Int} (hs : s < n) (hm : 1 ≤ m) (ht : t < n) (lv : ∀ f, f < n → lvI A n s (m - 1) f hp co ro ∨ lvI A n s m f hp co ro) (nw : noW A n s t (m - 1)) {c r : Int} (w : Wk A n s m t c r) : ∃ f c0 r0, f < n ∧ hp f = (m : Int) - 1 ∧ Bst A n s f (m - 1) (co f) (ro f) ∧ Wk A n s (m - 1) f c0 r0 ∧ A f t ≠ -1 ∧ c = c0 + A f t ∧ r = 10 * r0 + t := by
  obtain ⟨m, rfl⟩ : ∃ m', m = m' + 1 := ⟨m - 1, by omega⟩
  obtain ⟨-, f, c0, r0, w0, a, e1, e2⟩ := w
  have hf := Wk_lt hs w0
  rw [show m + 1 - 1 = m by omega] at nw lv ⊢
  refine ⟨f, c0, r0, hf, ?_⟩
  have main : ∃ k : Nat, hp f = k ∧ Bst A n s f k (co f) (ro f) := by
    rcases lv f hf with (⟨-, q⟩ | ⟨k, k1, k2, k3⟩) | (⟨-, q⟩ | ⟨k, k1, k2, k3⟩)
    · exact absurd w0 (q m (by omega) _ _)
    · exact ⟨k, k2, k3⟩
    · exact absurd w0 (q m (by omega) _ _)
    · exact ⟨k, k2, k3⟩
  obtain ⟨k, k2, k3⟩ := main
  have hk : k = m := by
    rcases Nat.lt_trichotomy k m with z | z | z
    · exfalso
      exact nw (k + 1) (by omega) _ _ ⟨ht, f, _, _, k3.1, a, rfl, rfl⟩
    · exact z
    · exact absurd w0 (k3.2.1 m z _ _)
  subst hk
  exact ⟨by rw [k2]; omega, k3, w0, a, e1, e2⟩
theorem inQ_end {A : Nat → Nat → Int} {n s m t : Nat} {hp co ro : Nat → Int} (hs : s < n) (hm : 1 ≤ m) (ht : t < n) (lv : ∀ f, f < n → f ≠ t → lvI A n s (m - 1) f hp co ro ∨ lvI A n s m f hp co ro) (haa : ∀ f, A f f = -1) (q : inQ A n s m t n hp co ro) : lvI A n s m t hp co ro := by
  obtain ⟨nw, q⟩ := q
  have prev : ∀ c r, Wk A n s m t c r → ∃ f c0 r0, f < n ∧ hp f = (m : Int) - 1 ∧ Bst A n s f (m - 1) (co f) (ro f) ∧ Wk A n s (m - 1) f c0 r0 ∧ A f t ≠ -1 ∧ c = c0 + A f t ∧ r = 10 * r0 + t := by
    intro c r w
    obtain ⟨m', rfl⟩ : ∃ m', m = m' + 1 := ⟨m - 1, by omega⟩
    obtain ⟨h1, f, c0, r0, w0, a, e1, e2⟩ := id w
    have hne : f ≠ t := fun z => a (by rw [z]; exact haa t)
    have hf := Wk_lt hs w0
    rw [show m' + 1 - 1 = m' by omega] at nw lv ⊢
    refine ⟨f, c0, r0, hf, ?_⟩
    have main : ∃ k : Nat, hp f = k ∧ Bst A n s f k (co f) (ro f) := by
      rcases lv f hf hne with (⟨-, q⟩ | ⟨k, k1, k2, k3⟩) | (⟨-, q⟩ | ⟨k, k1, k2, k3⟩)
      · exact absurd w0 (q m' (by omega) _ _)
      · exact ⟨k, k2, k3⟩
      · exact absurd w0 (q m' (by omega) _ _)
      · exact ⟨k, k2, k3⟩
    obtain ⟨k, k2, k3⟩ := main
    have hk : k = m' := by
      rcases Nat.lt_trichotomy k m' with z | z | z
      · exfalso
        exact nw (k + 1) (by omega) _ _ ⟨ht, f, _, _, k3.1, a, rfl, rfl⟩
      · exact z
      · exact absurd w0 (k3.2.1 m' z _ _)
    subst hk
    exact ⟨by rw [k2]; omega, k3, w0, a, e1, e2⟩
  rcases q with ⟨q1, q2⟩ | ⟨q1, ⟨f, f1, f2, f3, f4, f5⟩, q3⟩
  · refine Or.inl ⟨q1, fun k hk c r w => ?_⟩
    by_cases z : k = m
    · subst z
      obtain ⟨f, c0, r0, g1, g2, g3, g4, g5, g6⟩ := prev c r w
      exact g5 (q2 f g1 g2)
    · exact nw k (by omega) c r w
  · refine Or.inr ⟨m, Nat.le_refl m, q1, ?_, fun j hj c r => nw j (by omega) c r, fun c2 r2 w => ?_⟩
    · have hne : f ≠ t := fun z => f3 (by rw [z]; exact haa t)
      have bf : Bst A n s f (m - 1) (co f) (ro f) := by
        rcases lv f f1 hne with (⟨z, -⟩ | ⟨k, k1, k2, k3⟩) | (⟨z, -⟩ | ⟨k, k1, k2, k3⟩)
        · omega
        · rw [show m - 1 = k by omega]; exact k3
        · omega
        · rw [show m - 1 = k by omega]; exact k3
      obtain ⟨m', rfl⟩ : ∃ m', m = m' + 1 := ⟨m - 1, by omega⟩
      exact ⟨ht, f, co f, ro f, bf.1, f3, f4, f5⟩
    · obtain ⟨f, c0, r0, g1, g2, g3, g4, g5, g6, g7⟩ := prev c2 r2 w
      have l1 := q3 f g1 g2 g5
      have l2 := g3.2.2 c0 r0 g4
      unfold lx at l1 l2 ⊢
      rw [g6, g7]
      omega
/-- simple ways on: j hops more, their powder, the row at the end -/
def Ex (A : Nat → Nat → Int) (n to : Nat) : Nat → Nat → Nat → Int → Int → Int → Prop
  | 0, _, f, c, dg, dg2 => f = to ∧ c = 0 ∧ dg2 = dg
  | k + 1, met, f, c, dg, dg2 => f ≠ to ∧ ∃ t c0, t < n ∧ met.testBit t = false ∧ A f t ≠ -1 ∧ c = A f t + c0 ∧ Ex A n to k (met ||| 2 ^ t) t c0 (10 * dg + t) dg2
def bcN (met n : Nat) : Nat := cnF (fun k => met.testBit k) n
theorem bc_add {met t : Nat} (ht : met.testBit t = false) : ∀ n, bcN (met ||| 2 ^ t) n = bcN met n + (if t < n then 1 else 0)
  | 0 => rfl
  | n + 1 => by
    have ih := bc_add ht n
    unfold bcN at ih ⊢
    unfold cnF
    rw [ih, Nat.testBit_or, Nat.testBit_two_pow]
    by_cases z : t = n
    · subst z
      simp [ht]
    · by_cases z2 : met.testBit n = true
      · simp [z2, z]
        by_cases z3 : t < n
        · rw [if_pos z3, if_pos (by omega)]
        · rw [if_neg z3, if_neg (by omega)]
      · simp [z2, z]
        by_cases z3 : t < n
        · rw [if_pos z3, if_pos (by omega)]
        · rw [if_neg z3, if_neg (by omega)]
theorem Ex_len {A : Nat → Nat → Int} {n to : Nat} : ∀ {k met f : Nat} {c dg dg2 : Int}, Ex A n to k met f c dg dg2 → bcN met n + k ≤ n
  | 0, met, f, c, dg, dg2, h => by have := cnF_le (fun k => met.testBit k) n; unfold bcN; omega
  | k + 1, met, f, c, dg, dg2, h => by
    obtain ⟨-, t, c0, h1, h2, h3, h4, h5⟩ := h
    have := Ex_len h5
    rw [bc_add h2, if_pos h1] at this
    omega
theorem Ex_W {A : Nat → Nat → Int} {n s to : Nat} : ∀ {k met f i : Nat} {c c0 dg dg2 : Int}, Ex A n to k met f c dg dg2 → Wk A n s i f c0 dg → Wk A n s (i + k) to (c0 + c) dg2
  | 0, met, f, i, c, c0, dg, dg2, h, w => by
    obtain ⟨rfl, rfl, rfl⟩ := h
    rw [Int.add_zero]
    exact w
  | k + 1, met, f, i, c, c0, dg, dg2, h, w => by
    obtain ⟨-, t, c1, h1, h2, h3, h4, h5⟩ := h
    have w2 : Wk A n s (i + 1) t (c0 + A f t) (10 * dg + t) := ⟨h1, f, c0, dg, w, h3, rfl, rfl⟩
    have := Ex_W h5 w2
    rw [show i + 1 + k = i + (k + 1) by omega, show c0 + A f t + c1 = c0 + c by omega] at this
    exact this
/-- the fewest hops to a fort -/
def mhP (A : Nat → Nat → Int) (n s v i : Nat) : Prop := (∃ c r, Wk A n s i v c r) ∧ ∀ j, j < i → ∀ c r, ¬ Wk A n s j v c r
theorem mh_u {A : Nat → Nat → Int} {n s v i j : Nat} (a : mhP A n s v i) (b : mhP A n s v j) : i = j := by
  obtain ⟨⟨c, r, w⟩, x⟩ := a
  obtain ⟨⟨c2, r2, w2⟩, y⟩ := b
  rcases Nat.lt_trichotomy i j with z | z | z
  · exact absurd w (y i z c r)
  · exact z
  · exact absurd w2 (x j z c2 r2)
def Pp (A : Nat → Nat → Int) (n s to : Nat) : Nat → Nat → Nat → Int → Int → Int → Prop
  | 0, _, f, c, dg, dg2 => f = to ∧ c = 0 ∧ dg2 = dg
  | k + 1, i, f, c, dg, dg2 => ∃ t c0, t < n ∧ A f t ≠ -1 ∧ mhP A n s t (i + 1) ∧ c = A f t + c0 ∧ Pp A n s to k (i + 1) t c0 (10 * dg + t) dg2
theorem Pp_of {A : Nat → Nat → Int} {n s to K : Nat} {c r : Int} (hs : s < n) (hto : to < n) (w : Wk A n s K to c r) (mh : mhP A n s to K) : ∀ k, k ≤ K → ∃ f c0 r0, f < n ∧ Wk A n s (K - k) f c0 r0 ∧ mhP A n s f (K - k) ∧ Pp A n s to k (K - k) f (c - c0) r0 r
  | 0, _ => ⟨to, c, r, hto, w, mh, rfl, by omega, rfl⟩
  | k + 1, hk => by
    obtain ⟨f, c0, r0, hf, w0, m0, p0⟩ := Pp_of hs hto w mh k (by omega)
    obtain ⟨i, hi⟩ : ∃ i, K - k = i + 1 := ⟨K - k - 1, by omega⟩
    rw [hi] at w0 m0 p0
    obtain ⟨-, f2, c2, r2, w2, a, e1, e2⟩ := id w0
    have hf2 := Wk_lt hs w2
    refine ⟨f2, c2, r2, hf2, ?_⟩
    rw [show K - (k + 1) = i by omega]
    refine ⟨w2, ⟨⟨c2, r2, w2⟩, fun j hj c3 r3 w3 => m0.2 (j + 1) (by omega) _ _ ⟨hf, f2, c3, r3, w3, a, rfl, rfl⟩⟩, ?_⟩
    refine ⟨f, c - c0, hf, a, m0, by omega, ?_⟩
    rw [← e2]
    exact p0
theorem Pp_Ex {A : Nat → Nat → Int} {n s to : Nat} : ∀ {k i met f : Nat} {c dg dg2 : Int}, Pp A n s to k i f c dg dg2 → mhP A n s f i → mhP A n s to (i + k) → (∀ v, met.testBit v = true → ∃ j, j ≤ i ∧ mhP A n s v j) → Ex A n to k met f c dg dg2
  | 0, i, met, f, c, dg, dg2, h, _, _, _ => h
  | k + 1, i, met, f, c, dg, dg2, h, mf, mt, hm => by
    obtain ⟨t, c0, h1, h2, h3, h4, h5⟩ := h
    refine ⟨fun z => ?_, t, c0, h1, ?_, h2, h4, Pp_Ex h5 h3 (by rw [show i + 1 + k = i + (k + 1) by omega]; exact mt) (fun v hv => ?_)⟩
    · subst z
      have := mh_u mf mt
      omega
    · cases hq : met.testBit t
      · rfl
      · obtain ⟨j, j1, j2⟩ := hm t hq
        have := mh_u j2 h3
        omega
    · rw [Nat.testBit_or, Nat.testBit_two_pow] at hv
      by_cases z : t = v
      · subst z; exact ⟨i + 1, Nat.le_refl _, h3⟩
      · have : met.testBit v = true := by simpa [z] using hv
        obtain ⟨j, j1, j2⟩ := hm v this
        exact ⟨j, by omega, j2⟩
/-- the best simple way is the best walk -/
theorem Ex_best {A : Nat → Nat → Int} {n s to K : Nat} {c r : Int} (hs : s < n) (hto : to < n) (b : Bst A n s to K c r) : Ex A n to K (2 ^ s) s c 0 r := by
  have mh : mhP A n s to K := ⟨⟨c, r, b.1⟩, b.2.1⟩
  obtain ⟨f, c0, r0, hf, w0, m0, p0⟩ := Pp_of hs hto b.1 mh K (Nat.le_refl K)
  rw [Nat.sub_self] at w0 m0 p0
  obtain ⟨rfl, rfl, rfl⟩ := w0
  have := Pp_Ex (met := 2 ^ f) p0 m0 (by rw [Nat.zero_add]; exact mh) (fun v hv => by
    rw [Nat.testBit_two_pow] at hv
    have : f = v := by simpa using hv
    subst this
    exact ⟨0, Nat.le_refl 0, m0⟩)
  rw [show c - 0 = c by omega] at this
  exact this
