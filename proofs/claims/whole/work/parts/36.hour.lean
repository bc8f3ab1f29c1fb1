/-! a row changed by a loop; an hour -/
def rs (h : MH) (a : Nat) (r : Nat → Int) : MH := fun x => if x = a then r else h x
theorem rs_s (h : MH) (a : Nat) (r : Nat → Int) : rs h a r a = r := if_pos rfl
theorem rs_n {h : MH} {a b : Nat} {r : Nat → Int} (e : b ≠ a) : rs h a r b = h b := if_neg e
theorem rs_id (h : MH) (a : Nat) : rs h a (h a) = h := by
  funext x
  unfold rs
  split
  · rename_i q; rw [q]
  · rfl
theorem up_rs (h : MH) (a j : Nat) (r : Nat → Int) (v : Int) : up (rs h a r) a j v = rs h a (su r j v) := by
  funext x y
  by_cases q : x = a
  · subst q
    rw [up_row, rs_s, rs_s]
  · rw [up_a q, rs_n q, rs_n q]
theorem up_is_rs (h : MH) (a j : Nat) (v : Int) : up h a j v = rs h a (su (h a) j v) := by
  have := up_rs h a j (h a) v
  rw [rs_id] at this
  exact this
theorem rs_mixc {c m : MH} {a : Nat} {r : Nat → Int} (e : a < 97) : rs (mix c m) a r = mix (rs c a r) m := by
  funext x
  by_cases q : x = a
  · subst q; rw [rs_s, mix_c e, rs_s]
  · rw [rs_n q]
    by_cases q2 : x < 97
    · rw [mix_c q2, mix_c q2, rs_n q]
    · rw [mix_m q2, mix_m q2]
theorem rs_mixm {c m : MH} {a : Nat} {r : Nat → Int} (e : ¬ a < 97) : rs (mix c m) a r = mix c (rs m a r) := by
  funext x
  by_cases q : x = a
  · subst q; rw [rs_s, mix_m e, rs_s]
  · rw [rs_n q]
    by_cases q2 : x < 97
    · rw [mix_c q2, mix_c q2]
    · rw [mix_m q2, mix_m q2, rs_n q]
theorem rs_rs (h : MH) (a : Nat) (r r2 : Nat → Int) : rs (rs h a r) a r2 = rs h a r2 := by
  funext x
  by_cases q : x = a
  · subst q; rw [rs_s, rs_s]
  · rw [rs_n q, rs_n q, rs_n q]
/-- the numbers at dp, dp + st .. are changed, n of them -/
def mpF (f : Int → Int) (dp st n : Nat) (r : Nat → Int) : Nat → Int := fun j => if dp ≤ j ∧ (j - dp) % st = 0 ∧ (j - dp) / st < n then f (r j) else r j
theorem mpF_0 (f : Int → Int) (dp st : Nat) (r : Nat → Int) : mpF f dp st 0 r = r := by
  funext j
  unfold mpF
  rw [if_neg (fun z => absurd z.2.2 (Nat.not_lt_zero _))]
theorem mpF_at {f : Int → Int} {dp st n x : Nat} {r : Nat → Int} (hst : 0 < st) (hx : n ≤ x) : mpF f dp st n r (dp + st * x) = r (dp + st * x) := by
  unfold mpF
  rw [if_neg]
  rintro ⟨-, -, q⟩
  rw [Nat.add_sub_cancel_left, Nat.mul_div_cancel_left x hst] at q
  omega
theorem mpF_in {f : Int → Int} {dp st n x : Nat} {r : Nat → Int} (hst : 0 < st) (hx : x < n) : mpF f dp st n r (dp + st * x) = f (r (dp + st * x)) := by
  unfold mpF
  rw [if_pos]
  rw [Nat.add_sub_cancel_left, Nat.mul_div_cancel_left x hst, Nat.mul_mod_right]
  omega
theorem mpF_out {f : Int → Int} {dp st n j : Nat} {r : Nat → Int} (hj : j < dp ∨ (j - dp) % st ≠ 0 ∨ n ≤ (j - dp) / st) : mpF f dp st n r j = r j := by
  unfold mpF
  rw [if_neg (by omega)]
theorem mpF_succ (f : Int → Int) (dp st n : Nat) (hst : 0 < st) (r : Nat → Int) : su (mpF f dp st n r) (dp + st * n) (f (r (dp + st * n))) = mpF f dp st (n + 1) r := by
  funext j
  unfold su
  by_cases q : j = dp + st * n
  · subst q
    rw [if_pos rfl, mpF_in hst (by omega)]
  · rw [if_neg q]
    unfold mpF
    by_cases q2 : dp ≤ j ∧ (j - dp) % st = 0 ∧ (j - dp) / st < n
    · rw [if_pos q2, if_pos ⟨q2.1, q2.2.1, by omega⟩]
    · rw [if_neg q2, if_neg]
      rintro ⟨z1, z2, z3⟩
      have z4 : (j - dp) / st = n := by
        rcases Nat.lt_or_ge ((j - dp) / st) n with z | z
        · exact absurd ⟨z1, z2, z⟩ q2
        · omega
      have := Nat.div_add_mod (j - dp) st
      rw [z2, z4] at this
      omega
theorem map_loop {ρ : Type} {L : Int → MH → ρ} {o : ρ} {f : Int → Int} {d dp st : Nat} {n : Int} {h : MH} (hst : 0 < st) (hn : 0 ≤ n) (hs : ∀ x, 0 ≤ x → x < n → L x (rs h d (mpF f dp st x.toNat (h d))) = L (x + 1) (up (rs h d (mpF f dp st x.toNat (h d))) d (dp + st * x.toNat) (f (h d (dp + st * x.toNat))))) (he : L n (rs h d (mpF f dp st n.toNat (h d))) = o) : L 0 h = o := by
  have key : ∀ (k : Nat) (x : Int), 0 ≤ x → x ≤ n → (n - x).toNat = k → L x (rs h d (mpF f dp st x.toNat (h d))) = o := by
    intro k
    induction k with
    | zero =>
      intro x hx hxn hk
      have : x = n := by omega
      subst this
      exact he
    | succ k ih =>
      intro x hx hxn hk
      rw [hs x hx (by omega), up_rs, mpF_succ f dp st _ hst, show x.toNat + 1 = (x + 1).toNat by omega]
      exact ih (x + 1) (by omega) (by omega) (by omega)
  have := key _ 0 (by omega) hn rfl
  rw [show (0 : Int).toNat = 0 from rfl, mpF_0, rs_id] at this
  exact this
def lessF (v : Int) : Int := mx 0 (v - 1)
def moreF (v : Int) : Int := mn 9 (v + 1)
def hrC (f : Int) (c : Nat → Int) : Nat → Int := if (c 4 + 1) % 4 = 0 then mpF moreF 21 1 f.toNat (su (mpF lessF 16 1 5 c) 4 (c 4 + 1)) else su (mpF lessF 16 1 5 c) 4 (c 4 + 1)
def hrM (f k : Int) (v : Nat → Int) : Nat → Int := if (v 35 + 1) % 4 = 0 then mpF moreF 0 1 f.toNat (su (mpF lessF 18 3 k.toNat v) 35 (v 35 + 1)) else su (mpF lessF 18 3 k.toNat v) 35 (v 35 + 1)
theorem e_passHour (d : Nat) (f : Int) (h : MH) (hf0 : 0 ≤ f) (hf : f ≤ 8) (hb : ∀ j, j < 37 → -1000 ≤ h 91 j ∧ h 91 j ≤ 1000000) (h4 : 0 ≤ h 91 4) : Run d 100 0 [vR 12, .inl f, vU] [] h = some (none, rs h 91 (hrC f (h 91))) := by
  rw [q100_0]
  refine map_loop (L := fun x h => Run d 100 2 [vR 12, .inl f, .inl x] [] h) (f := lessF) (d := 91) (dp := 16) (st := 1) (n := 5) (by omega) (by omega) (fun x h0 h1 => ?_) ?_
  · have b := hb (16 + 1 * x.toNat) (by omega)
    rw [q100_2, if_neg (by omega)]
    simp (disch := omega) only [wI_ok, if_pos, rs_s]
    rw [show (16 + x).toNat = 16 + 1 * x.toNat by omega, mpF_at (by omega) (by omega), wI_ok (by omega) (by omega)]
    rfl
  · have b4 := hb 4 (by omega)
    rw [q100_2, if_pos (by omega)]
    simp only [up_s, rs_s]
    rw [mpF_out (by omega), wI_ok (by omega) (by omega), Int.tmod_eq_emod_of_nonneg (by omega), up_rs]
    unfold hrC
    by_cases q : (h 91 4 + 1) % 4 = 0
    · rw [if_neg (fun z => z q), if_pos q]
      refine map_loop (L := fun x h => Run d 100 60 [vR 12, .inl f, .inl x] [] h) (f := moreF) (d := 91) (dp := 21) (st := 1) (n := f) (by omega) hf0 (fun x h0 h1 => ?_) ?_
      · have b := hb (21 + 1 * x.toNat) (by omega)
        rw [q100_60, if_neg (by omega)]
        simp (disch := omega) only [wI_ok, if_pos, rs_s]
        rw [show (21 + x).toNat = 21 + 1 * x.toNat by omega, mpF_at (by omega) (by omega)]
        rw [show su (mpF lessF 16 1 (Int.toNat 5) (h 91)) 4 (h 91 4 + 1) (21 + 1 * x.toNat) = h 91 (21 + 1 * x.toNat) by rw [su_i (by omega), mpF_out (by omega)], wI_ok (by omega) (by omega)]
        rfl
      · rw [q100_60, if_pos (by omega), rs_rs, rs_s]
        rfl
    · rw [if_pos q, if_neg q]
      rfl
theorem e_passHourT (d : Nat) (f : Int) (h : MH) (hf0 : 0 ≤ f) (hf : f ≤ 8) (hb : ∀ j, j < 37 → -1000 ≤ h 93 j ∧ h 93 j ≤ 1000000) (h4 : 0 ≤ h 93 4) : Run d 100 0 [vR 13, .inl f, vU] [] h = some (none, rs h 93 (hrC f (h 93))) := by
  rw [q100_0_1]
  refine map_loop (L := fun x h => Run d 100 2 [vR 13, .inl f, .inl x] [] h) (f := lessF) (d := 93) (dp := 16) (st := 1) (n := 5) (by omega) (by omega) (fun x h0 h1 => ?_) ?_
  · have b := hb (16 + 1 * x.toNat) (by omega)
    rw [q100_2_1, if_neg (by omega)]
    simp (disch := omega) only [wI_ok, if_pos, rs_s]
    rw [show (16 + x).toNat = 16 + 1 * x.toNat by omega, mpF_at (by omega) (by omega), wI_ok (by omega) (by omega)]
    rfl
  · have b4 := hb 4 (by omega)
    rw [q100_2_1, if_pos (by omega)]
    simp only [up_s, rs_s]
    rw [mpF_out (by omega), wI_ok (by omega) (by omega), Int.tmod_eq_emod_of_nonneg (by omega), up_rs]
    unfold hrC
    by_cases q : (h 93 4 + 1) % 4 = 0
    · rw [if_neg (fun z => z q), if_pos q]
      refine map_loop (L := fun x h => Run d 100 60 [vR 13, .inl f, .inl x] [] h) (f := moreF) (d := 93) (dp := 21) (st := 1) (n := f) (by omega) hf0 (fun x h0 h1 => ?_) ?_
      · have b := hb (21 + 1 * x.toNat) (by omega)
        rw [q100_60_1, if_neg (by omega)]
        simp (disch := omega) only [wI_ok, if_pos, rs_s]
        rw [show (21 + x).toNat = 21 + 1 * x.toNat by omega, mpF_at (by omega) (by omega)]
        rw [show su (mpF lessF 16 1 (Int.toNat 5) (h 93)) 4 (h 93 4 + 1) (21 + 1 * x.toNat) = h 93 (21 + 1 * x.toNat) by rw [su_i (by omega), mpF_out (by omega)], wI_ok (by omega) (by omega)]
        rfl
      · rw [q100_60_1, if_pos (by omega), rs_rs, rs_s]
        rfl
    · rw [if_pos q, if_neg q]
      rfl
theorem m_goHour (d : Nat) (h : MH) (f k : Int) (ef : h 97 26 = f) (ek : h 97 27 = k) (hf0 : 0 ≤ f) (hf : f ≤ 8) (hk0 : 0 ≤ k) (hk : k ≤ 5) (hb : ∀ j, j < 37 → -1000 ≤ h 110 j ∧ h 110 j ≤ 1000000) (h4 : 0 ≤ h 110 35) : Run (d + 1) 247 0 [vR 97, vR 110, vU] [] h = some (none, rs h 110 (hrM f k (h 110))) := by
  rw [q247_0]
  refine map_loop (L := fun x h => Run (d + 1) 247 2 [vR 97, vR 110, .inl x] [] h) (f := lessF) (d := 110) (dp := 18) (st := 3) (n := k) (by omega) hk0 (fun x h0 h1 => ?_) ?_
  · have b := hb (18 + 3 * x.toNat) (by omega)
    rw [q247_2, if_neg (by rw [rs_n (by omega), ek]; omega)]
    simp (disch := omega) only [wI_ok, if_pos, rs_s, m_folk, cI_some]
    rw [show (16 + 3 * x + 2).toNat = 18 + 3 * x.toNat by omega, mpF_at (by omega) (by omega), wI_ok (by omega) (by omega)]
    rfl
  · have b4 := hb 35 (by omega)
    rw [q247_2, if_pos (by rw [rs_n (by omega), ek]; omega)]
    simp only [rs_s]
    rw [mpF_out (by omega), wI_ok (by omega) (by omega), up_rs]
    unfold hrM
    by_cases q : (h 110 35 + 1) % 4 = 0
    · rw [if_pos q]
      refine map_loop (L := fun x h => Run (d + 1) 247 48 [vR 97, vR 110, .inl x] [] h) (f := moreF) (d := 110) (dp := 0) (st := 1) (n := f) (by omega) hf0 (fun x h0 h1 => ?_) ?_
      · have b := hb (0 + 1 * x.toNat) (by omega)
        have e35 : mpF moreF 0 1 x.toNat (su (mpF lessF 18 3 k.toNat (h 110)) 35 (h 110 35 + 1)) 35 = h 110 35 + 1 := by
          rw [mpF_out (by omega), su_s]
        rw [q247_48, if_neg (by rw [rs_n (by omega), rs_n (by omega), ef]; omega)]
        simp only [rs_s]
        rw [e35, Int.tmod_eq_emod_of_nonneg (by omega), if_neg (fun z => z q)]
        simp (disch := omega) only [wI_ok, if_pos]
        rw [show (0 + x).toNat = 0 + 1 * x.toNat by omega, mpF_at (by omega) (by omega)]
        rw [show su (mpF lessF 18 3 k.toNat (h 110)) 35 (h 110 35 + 1) (0 + 1 * x.toNat) = h 110 (0 + 1 * x.toNat) by rw [su_i (by omega), mpF_out (by omega)], wI_ok (by omega) (by omega)]
        rfl
      · rw [q247_48, if_pos (by rw [rs_n (by omega), rs_n (by omega), ef]; omega), rs_rs, rs_s]
    · rw [if_neg q, q247_48]
      by_cases q2 : f ≤ 0
      · rw [if_pos (by rw [rs_n (by omega), ef]; omega)]
      · rw [if_neg (by rw [rs_n (by omega), ef]; omega), rs_s, su_s, Int.tmod_eq_emod_of_nonneg (by omega), if_pos q]
theorem m_goHourT (d : Nat) (h : MH) (f k : Int) (ef : h 97 26 = f) (ek : h 97 27 = k) (hf0 : 0 ≤ f) (hf : f ≤ 8) (hk0 : 0 ≤ k) (hk : k ≤ 5) (hb : ∀ j, j < 37 → -1000 ≤ h 111 j ∧ h 111 j ≤ 1000000) (h4 : 0 ≤ h 111 35) : Run (d + 1) 247 0 [vR 97, vR 111, vU] [] h = some (none, rs h 111 (hrM f k (h 111))) := by
  rw [q247_0_1]
  refine map_loop (L := fun x h => Run (d + 1) 247 2 [vR 97, vR 111, .inl x] [] h) (f := lessF) (d := 111) (dp := 18) (st := 3) (n := k) (by omega) hk0 (fun x h0 h1 => ?_) ?_
  · have b := hb (18 + 3 * x.toNat) (by omega)
    rw [q247_2_1, if_neg (by rw [rs_n (by omega), ek]; omega)]
    simp (disch := omega) only [wI_ok, if_pos, rs_s, m_folk, cI_some]
    rw [show (16 + 3 * x + 2).toNat = 18 + 3 * x.toNat by omega, mpF_at (by omega) (by omega), wI_ok (by omega) (by omega)]
    rfl
  · have b4 := hb 35 (by omega)
    rw [q247_2_1, if_pos (by rw [rs_n (by omega), ek]; omega)]
    simp only [rs_s]
    rw [mpF_out (by omega), wI_ok (by omega) (by omega), up_rs]
    unfold hrM
    by_cases q : (h 111 35 + 1) % 4 = 0
    · rw [if_pos q]
      refine map_loop (L := fun x h => Run (d + 1) 247 48 [vR 97, vR 111, .inl x] [] h) (f := moreF) (d := 111) (dp := 0) (st := 1) (n := f) (by omega) hf0 (fun x h0 h1 => ?_) ?_
      · have b := hb (0 + 1 * x.toNat) (by omega)
        have e35 : mpF moreF 0 1 x.toNat (su (mpF lessF 18 3 k.toNat (h 111)) 35 (h 111 35 + 1)) 35 = h 111 35 + 1 := by
          rw [mpF_out (by omega), su_s]
        rw [q247_48_1, if_neg (by rw [rs_n (by omega), rs_n (by omega), ef]; omega)]
        simp only [rs_s]
        rw [e35, Int.tmod_eq_emod_of_nonneg (by omega), if_neg (fun z => z q)]
        simp (disch := omega) only [wI_ok, if_pos]
        rw [show (0 + x).toNat = 0 + 1 * x.toNat by omega, mpF_at (by omega) (by omega)]
        rw [show su (mpF lessF 18 3 k.toNat (h 111)) 35 (h 111 35 + 1) (0 + 1 * x.toNat) = h 111 (0 + 1 * x.toNat) by rw [su_i (by omega), mpF_out (by omega)], wI_ok (by omega) (by omega)]
        rfl
      · rw [q247_48_1, if_pos (by rw [rs_n (by omega), rs_n (by omega), ef]; omega), rs_rs, rs_s]
    · rw [if_neg q, q247_48_1]
      by_cases q2 : f ≤ 0
      · rw [if_pos (by rw [rs_n (by omega), ef]; omega)]
      · rw [if_neg (by rw [rs_n (by omega), ef]; omega), rs_s, su_s, Int.tmod_eq_emod_of_nonneg (by omega), if_pos q]
theorem mpF_in' {f : Int → Int} {dp n j : Nat} {r : Nat → Int} (h0 : dp ≤ j) (h1 : j < dp + n) : mpF f dp 1 n r j = f (r j) := by
  unfold mpF
  rw [if_pos (by omega)]
theorem hrC_hay {f : Int} {c : Nat → Int} {i : Nat} (hi : i < 8) : hrC f c (21 + i) = if (c 4 + 1) % 4 = 0 ∧ (i : Int) < f then moreF (c (21 + i)) else c (21 + i) := by
  unfold hrC
  by_cases q : (c 4 + 1) % 4 = 0
  · rw [if_pos q]
    by_cases q2 : (i : Int) < f
    · rw [if_pos ⟨q, q2⟩, mpF_in' (by omega) (by omega), su_i (by omega), mpF_out (by omega)]
    · rw [if_neg (fun z => q2 z.2), mpF_out (by omega), su_i (by omega), mpF_out (by omega)]
  · rw [if_neg q, if_neg (fun z => q z.1), su_i (by omega), mpF_out (by omega)]
theorem hrC_late {f : Int} {c : Nat → Int} {i : Nat} (hi : i < 5) : hrC f c (16 + i) = lessF (c (16 + i)) := by
  unfold hrC
  split
  · rw [mpF_out (by omega), su_i (by omega), mpF_in' (by omega) (by omega)]
  · rw [su_i (by omega), mpF_in' (by omega) (by omega)]
theorem hrC_4 {f : Int} {c : Nat → Int} : hrC f c 4 = c 4 + 1 := by
  unfold hrC
  split
  · rw [mpF_out (by omega), su_s]
  · rw [su_s]
theorem hrC_o {f : Int} {c : Nat → Int} {j : Nat} (hf : f ≤ 8) (h4 : j ≠ 4) (h : j < 16 ∨ 29 ≤ j) : hrC f c j = c j := by
  unfold hrC
  split
  · rw [mpF_out (by omega), su_i h4, mpF_out (by omega)]
  · rw [su_i h4, mpF_out (by omega)]
theorem hrM_hay {f k : Int} {v : Nat → Int} {i : Nat} (hi : i < 8) : hrM f k v i = if (v 35 + 1) % 4 = 0 ∧ (i : Int) < f then moreF (v i) else v i := by
  unfold hrM
  by_cases q : (v 35 + 1) % 4 = 0
  · rw [if_pos q]
    by_cases q2 : (i : Int) < f
    · rw [if_pos ⟨q, q2⟩, mpF_in' (by omega) (by omega), su_i (by omega), mpF_out (by omega)]
    · rw [if_neg (fun z => q2 z.2), mpF_out (by omega), su_i (by omega), mpF_out (by omega)]
  · rw [if_neg q, if_neg (fun z => q z.1), su_i (by omega), mpF_out (by omega)]
theorem hrM_late {f k : Int} {v : Nat → Int} {i : Nat} (hi : i < 5) (hf : f ≤ 8) : hrM f k v (18 + 3 * i) = if (i : Int) < k then lessF (v (18 + 3 * i)) else v (18 + 3 * i) := by
  unfold hrM
  by_cases q : (i : Int) < k
  · rw [if_pos q]
    split
    · rw [mpF_out (by omega), su_i (by omega), mpF_in (by omega) (by omega)]
    · rw [su_i (by omega), mpF_in (by omega) (by omega)]
  · rw [if_neg q]
    split
    · rw [mpF_out (by omega), su_i (by omega), mpF_out (by omega)]
    · rw [su_i (by omega), mpF_out (by omega)]
theorem hrM_35 {f k : Int} {v : Nat → Int} (hf : f ≤ 8) : hrM f k v 35 = v 35 + 1 := by
  unfold hrM
  split
  · rw [mpF_out (by omega), su_s]
  · rw [su_s]
theorem hrM_o {f k : Int} {v : Nat → Int} {j : Nat} (hf : f ≤ 8) (hk : k ≤ 5) (h4 : j ≠ 35) (h8 : 8 ≤ j) (h : j < 18 ∨ (j - 18) % 3 ≠ 0 ∨ 33 ≤ j) : hrM f k v j = v j := by
  unfold hrM
  split
  · rw [mpF_out (by omega), su_i h4, mpF_out (by omega)]
  · rw [su_i h4, mpF_out (by omega)]
theorem hr_R {f k b : Int} {c v : Nat → Int} (r : stR c v) (o : stOK f k b c) (hf : f ≤ 8) (hk : k ≤ 5) : stR (hrC f c) (hrM f k v) := by
  obtain ⟨r1, r2, s1, s2, s3, s4, s5, s6⟩ := r
  refine ⟨fun i hi => ⟨?_, ?_⟩, fun i hi => ⟨?_, ?_, ?_⟩, ?_, ?_, ?_, ?_, ?_, ?_⟩
  · rw [hrC_hay hi, hrM_hay hi, s5, (r1 i hi).1]
  · rw [hrC_o hf (by omega) (by omega), hrM_o hf hk (by omega) (by omega) (by omega)]
    exact (r1 i hi).2
  · rw [hrC_o hf (by omega) (by omega), hrM_o hf hk (by omega) (by omega) (by omega)]
    exact (r2 i hi).1
  · rw [hrC_o hf (by omega) (by omega), hrM_o hf hk (by omega) (by omega) (by omega)]
    exact (r2 i hi).2.1
  · rw [hrC_late hi, hrM_late hi hf, (r2 i hi).2.2]
    split
    · rfl
    · rw [(o.2.2.1 i (by omega) hi).2.2]
      rfl
  · rw [hrC_o hf (by omega) (by omega), hrM_o hf hk (by omega) (by omega) (by omega), s1]
  · rw [hrC_o hf (by omega) (by omega), hrM_o hf hk (by omega) (by omega) (by omega), s2]
  · rw [hrC_o hf (by omega) (by omega), hrM_o hf hk (by omega) (by omega) (by omega), s3]
  · rw [hrC_o hf (by omega) (by omega), hrM_o hf hk (by omega) (by omega) (by omega), s4]
  · rw [hrC_4, hrM_35 hf, s5]
  · rw [hrC_o hf (by omega) (by omega), hrM_o hf hk (by omega) (by omega) (by omega), s6]
theorem hr_OK {f k b : Int} {c : Nat → Int} (o : stOK f k b c) (hf : f ≤ 8) (hk : k ≤ 5) (h4 : c 4 + 1 ≤ 9999) : stOK f k b (hrC f c) := by
  obtain ⟨⟨s1, s2, s3, s4, s5, s6⟩, o2, o3, o4, o5⟩ := o
  refine ⟨⟨?_, ?_, ?_, ?_, ?_, ?_⟩, fun i hi => ⟨?_, ?_, ?_⟩, fun i hi h5 => ⟨?_, ?_, ?_⟩, fun i hi => ⟨?_, ?_⟩, fun i hi h8 => ⟨?_, ?_⟩⟩
  · rw [hrC_o hf (by omega) (by omega)]; exact s1
  · rw [hrC_o hf (by omega) (by omega)]; exact s2
  · rw [hrC_o hf (by omega) (by omega)]; exact s3
  · rw [hrC_o hf (by omega) (by omega)]; exact s4
  · rw [hrC_4]; omega
  · rw [hrC_o hf (by omega) (by omega)]; exact s6
  · rw [hrC_o hf (by omega) (by omega)]; exact (o2 i hi).1
  · rw [hrC_o hf (by omega) (by omega)]; exact (o2 i hi).2.1
  · rw [hrC_late (by omega)]
    have := (o2 i hi).2.2
    unfold lessF mx
    split <;> omega
  · rw [hrC_o hf (by omega) (by omega)]; exact (o3 i hi h5).1
  · rw [hrC_o hf (by omega) (by omega)]; exact (o3 i hi h5).2.1
  · rw [hrC_late h5, (o3 i hi h5).2.2]; rfl
  · rw [hrC_hay (by omega)]
    have := (o4 i hi).1
    split
    · unfold moreF mn
      split <;> omega
    · exact this
  · rw [hrC_o hf (by omega) (by omega)]; exact (o4 i hi).2
  · rw [hrC_hay h8, if_neg (by omega)]; exact (o5 i hi h8).1
  · rw [hrC_o hf (by omega) (by omega)]; exact (o5 i hi h8).2
