/-! rows copied by a loop; class and reference apart -/
theorem copy_loop {ρ : Type} {L : Int → MH → ρ} {fin : MH → ρ} {s d sp dp : Nat} {n : Int} {P : MH → Prop} (hP : ∀ h j v, P h → P (up h d j v)) (he : ∀ h x, P h → n ≤ x → L x h = fin h) (hs : ∀ h x, P h → 0 ≤ x → x < n → L x h = L (x + 1) (up h d (dp + x.toNat) (h s (sp + x.toNat)))) (hsd : s ≠ d ∨ dp ≤ sp) (h : MH) (h0 : P h) (hn : 0 ≤ n) : L 0 h = fin (cpy h (h s) d sp dp n.toNat) := by
  have e0 : h = cpy h (h s) d sp dp (0 : Int).toNat := by
    funext a j
    unfold cpy
    split
    · rw [if_neg (by simp)]
    · rfl
  have key : ∀ (k : Nat) (x : Int), 0 ≤ x → x ≤ n → (n - x).toNat = k → P (cpy h (h s) d sp dp x.toNat) → L x (cpy h (h s) d sp dp x.toNat) = fin (cpy h (h s) d sp dp n.toNat) := by
    intro k
    induction k with
    | zero =>
      intro x hx hxn hk hp
      have : x = n := by omega
      subst this
      exact he _ _ hp (by omega)
    | succ k ih =>
      intro x hx hxn hk hp
      have e1 : up (cpy h (h s) d sp dp x.toNat) d (dp + x.toNat) ((cpy h (h s) d sp dp x.toNat) s (sp + x.toNat)) = cpy h (h s) d sp dp (x + 1).toNat := by
        have e2 : (cpy h (h s) d sp dp x.toNat) s (sp + x.toNat) = h s (sp + x.toNat) := by
          by_cases q : s = d
          · subst q
            rw [cpy_at]
            exact if_neg (by omega)
          · rw [cpy_ne q]
        rw [e2]
        funext a j
        by_cases qa : a = d
        · subst qa
          rw [cpy_at]
          by_cases qj : j = dp + x.toNat
          · subst qj
            rw [up_s]
            dsimp only
            rw [if_pos (by omega)]
            congr 1
            omega
          · rw [up_i qj, cpy_at]
            dsimp only
            by_cases q2 : dp ≤ j ∧ j < dp + x.toNat
            · rw [if_pos q2, if_pos (by omega)]
            · rw [if_neg q2, if_neg (by omega)]
        · rw [up_a qa, cpy_ne qa, cpy_ne qa]
      rw [hs _ x hp hx (by omega), e1]
      exact ih (x + 1) (by omega) (by omega) (by omega) (by rw [← e1]; exact hP _ _ _ hp)
  have := key (n - 0).toNat 0 (by omega) hn rfl (by rw [← e0]; exact h0)
  rw [← e0] at this
  exact this
/-- the class' cells of one, the reference's of another -/
def mix (c m : MH) : MH := fun a => if a < 97 then c a else m a
theorem mix_c {c m : MH} {a : Nat} (e : a < 97) : mix c m a = c a := if_pos e
theorem mix_m {c m : MH} {a : Nat} (e : ¬ a < 97) : mix c m a = m a := if_neg e
theorem mix_self (h : MH) : mix h h = h := by
  funext a
  unfold mix
  split <;> rfl
theorem up_mixc {c m : MH} {a j : Nat} {v : Int} (e : a < 97) : up (mix c m) a j v = mix (up c a j v) m := by
  funext x y
  by_cases q : x = a
  · subst q
    rw [mix_c e]
    by_cases q2 : y = j
    · subst q2; rw [up_s, up_s]
    · rw [up_i q2, up_i q2, mix_c e]
  · rw [up_a q]
    by_cases q2 : x < 97
    · rw [mix_c q2, mix_c q2, up_a q]
    · rw [mix_m q2, mix_m q2]
theorem up_mixm {c m : MH} {a j : Nat} {v : Int} (e : ¬ a < 97) : up (mix c m) a j v = mix c (up m a j v) := by
  funext x y
  by_cases q : x = a
  · subst q
    rw [mix_m e]
    by_cases q2 : y = j
    · subst q2; rw [up_s, up_s]
    · rw [up_i q2, up_i q2, mix_m e]
  · rw [up_a q]
    by_cases q2 : x < 97
    · rw [mix_c q2, mix_c q2]
    · rw [mix_m q2, mix_m q2, up_a q]
theorem cpy_mixc {c m : MH} {f : Nat → Int} {a sp dp n : Nat} (e : a < 97) : cpy (mix c m) f a sp dp n = mix (cpy c f a sp dp n) m := by
  funext x y
  by_cases q : x = a
  · subst q
    rw [mix_c e, cpy_at, cpy_at, mix_c e]
  · rw [cpy_ne q]
    by_cases q2 : x < 97
    · rw [mix_c q2, mix_c q2, cpy_ne q]
    · rw [mix_m q2, mix_m q2]
theorem cpy_mixm {c m : MH} {f : Nat → Int} {a sp dp n : Nat} (e : ¬ a < 97) : cpy (mix c m) f a sp dp n = mix c (cpy m f a sp dp n) := by
  funext x y
  by_cases q : x = a
  · subst q
    rw [mix_m e, cpy_at, cpy_at, mix_m e]
  · rw [cpy_ne q]
    by_cases q2 : x < 97
    · rw [mix_c q2, mix_c q2]
    · rw [mix_m q2, mix_m q2, cpy_ne q]
/-- class and reference, each on its own cells -/
def PrM (b b2 : Int) (kc km : Nat) (ac am : List MV) (hc hm : MH) : Prop := ∃ v hc2 hm2, (∀ g, Run 40 kc 0 ac [] (mix hc g) = some (some (.inl v), mix hc2 g)) ∧ (∀ g, Run 40 km 0 am [] (mix g hm) = some (some (.inl v), mix g hm2)) ∧ Inv0 b2 (mix hc2 hm2) ∧ resL (mix hc2 hm2) = resL (mix hc hm)
theorem Pr_M {b b2 : Int} {kc km : Nat} {ac am : List MV} {h : MH} (q : PrM b b2 kc km ac am h h) : Pr b b2 kc km ac am h := by
  obtain ⟨v, hc2, hm2, q1, q2, q3, q4⟩ := q
  refine ⟨v, mix hc2 h, mix hc2 hm2, ?_, q2 hc2, q3, ?_⟩
  · have := q1 h
    rw [mix_self] at this
    exact this
  · rw [mix_self] at q4; exact q4
/-! the history's rows -/
def keepC (h : MH) : MH := up (up (cpy h (h 91) (51 + (h 11 2).toNat) 0 0 37) 11 2 ((h 11 2 + 1) % 40)) 11 0 (mn 40 (h 11 0 + 1))
theorem e_keep (d : Nat) (h : MH) (h0 : 0 ≤ h 11 2) (h1 : h 11 2 < 40) (h2 : 0 ≤ h 11 0) (h3 : h 11 0 ≤ 40) : Run d 77 0 [vR 11, vR 12] [] h = some (none, keepC h) := by
  rw [q77_0, if_pos ⟨h0, h1⟩]
  have e1 : cpy h (h 91) (51 + (h 11 2).toNat) 0 0 37 11 = h 11 := cpy_ne (by omega)
  simp only [e1, up_s, up_a, up_i, ne_eq, Nat.reduceEqDiff, not_false_eq_true]
  rw [wI_ok (by omega) (by omega), wI_ok (by omega) (by omega), Int.tmod_eq_emod_of_nonneg (by omega)]
  rfl
def remM (h : MH) : MH := if h 97 37 = 40 then up (cpy (up (cpy h (h 112) 112 277 0 10803) 97 37 39) (h 110) 112 0 10803 277) 97 37 40 else up (cpy h (h 110) 112 0 (277 * (h 97 37).toNat) 277) 97 37 (h 97 37 + 1)
theorem m_rem1 (d : Nat) (h : MH) (n : Int) (hn : h 97 37 = n) (h0 : 0 ≤ n) (h1 : n < 40) : Run d 229 52 [vR 97, .inl 0] [] h = some (none, up (cpy h (h 110) 112 0 (277 * n.toNat) 277) 97 37 (n + 1)) := by
  have := copy_loop (L := fun x h => Run d 229 52 [vR 97, .inl x] [] h) (fin := fun h => some (none, up h 97 37 (n + 1))) (s := 110) (d := 112) (sp := 0) (dp := 277 * n.toNat) (n := 277) (P := fun h => h 97 37 = n) (fun h j v hp => hp)
    (fun h x hp hx => by
      rw [q229_52, if_pos hx, hp, wI_ok (by omega) (by omega)])
    (fun h x hp h0 hx => by
      rw [q229_52]
      simp (disch := omega) only [hp, wI_ok, if_neg, if_pos]
      rw [show (277 * n + x).toNat = 277 * n.toNat + x.toNat by omega, Nat.zero_add])
    (Or.inl (by omega)) h hn (by omega)
  exact this
theorem m_remember (d : Nat) (h : MH) (h0 : 0 ≤ h 97 37) (h1 : h 97 37 ≤ 40) : Run d 229 0 [vR 97, vU] [] h = some (none, remM h) := by
  rw [q229_0]
  unfold remM
  by_cases q : h 97 37 = 40
  · rw [if_neg (fun z => z q), if_pos q]
    have := copy_loop (L := fun x h => Run d 229 11 [vR 97, .inl x] [] h) (fin := fun h => some (none, up (cpy (up h 97 37 39) (h 110) 112 0 10803 277) 97 37 40)) (s := 112) (d := 112) (sp := 277) (dp := 0) (n := 10803) (P := fun h => h 97 37 = 40) (fun h j v hp => hp)
      (fun h x hp hx => by
        rw [q229_11, if_pos hx, hp, wI_ok (by omega) (by omega), show (40 : Int) - 1 = 39 by omega, m_rem1 d _ 39 (up_s _ _ _ _) (by omega) (by omega), show 277 * Int.toNat 39 = 10803 by decide, show (39 : Int) + 1 = 40 by omega, up_ne (b := 110) (by omega)])
      (fun h x hp h0 hx => by
        rw [q229_11]
        simp (disch := omega) only [wI_ok, if_neg, if_pos]
        rw [show (x + 277).toNat = 277 + x.toNat by omega, Nat.zero_add])
      (Or.inr (by omega)) h q (by omega)
    exact this
  · rw [if_pos q, if_neg q]
    exact m_rem1 d h _ rfl h0 (by omega)
