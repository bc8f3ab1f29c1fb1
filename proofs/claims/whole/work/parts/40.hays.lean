/-! hays -/
theorem res_e {g g2 : MH} (e : ∀ a j, relB a j = true → g2 a j = g a j) : res g2 = res g := by
  funext a j
  unfold res
  by_cases q : relB a j = true
  · rw [if_pos q, if_pos q, e a j q]
  · rw [if_neg q, if_neg q]
/-- what is not of the invariant may change -/
def Eqv (h h2 : MH) : Prop := ∀ a j, relB a j = true → h2 a j = h a j
theorem Eqv.rf (h : MH) : Eqv h h := fun _ _ _ => rfl
theorem Eqv.tr {h h2 h3 : MH} (e : Eqv h h2) (f : Eqv h2 h3) : Eqv h h3 := fun a j r => (f a j r).trans (e a j r)
theorem Eqv.inv {b : Int} {h h2 : MH} (e : Eqv h h2) (i : Inv0 b h) : Inv0 b h2 := Inv0_res (res_e e) i
theorem Eqv.L {h h2 : MH} (e : Eqv h h2) : resL h2 = resL h := resL_e (fun a j r => e a j (relL_B r))
theorem Eqv.up {h : MH} {a j : Nat} {v : Int} (e : relB a j = false) : Eqv h (up h a j v) := by
  intro x y r
  by_cases q1 : x = a
  · by_cases q2 : y = j
    · subst q1; subst q2; rw [e] at r; cases r
    · subst q1; exact up_i q2
  · exact up_a q1
theorem Eqv.rs {h : MH} {a : Nat} {r : Nat → Int} (e : ∀ j, relB a j = false) : Eqv h (rs h a r) := by
  intro x y q
  by_cases q1 : x = a
  · subst q1; rw [e y] at q; cases q
  · rw [rs_n q1]
theorem Pr_e {b : Int} {kc km : Nat} {ac am : List MV} {h : MH} (i : Inv0 b h) {v : Int} {h1 h2 : MH} (q1 : Run 40 kc 0 ac [] h = some (some (.inl v), h1)) (q2 : Run 40 km 0 am [] h1 = some (some (.inl v), h2)) (e : Eqv h h2) : Pr b b kc km ac am h := ⟨v, h1, h2, q1, q2, e.inv i, e.L⟩
def lsC (c : Nat → Int) : Nat → Int
  | 0 => 9
  | k + 1 => mn (lsC c k) (c (21 + k))
def lsM (v : Nat → Int) : Nat → Int
  | 0 => 9
  | k + 1 => mn (lsM v k) (v k)
theorem e_least (d : Nat) (x : Int) (z : MV) (hz : cat z = 1) (h : MH) (h8 : h 2 3 ≤ 8) (h0 : 0 ≤ h 2 3) : Run (d + 1) 169 27 [vR 0, .inl x, .inl 9, .inl 0, z] [] h = Run (d + 1) 169 74 [vR 0, .inl x, .inl (lsC (h 91) (h 2 3).toNat), .inl (h 91 4), .inl 0] [] h := by
  have key : ∀ (n : Nat) (j : Int), 0 ≤ j → j ≤ h 2 3 → (h 2 3 - j).toNat = n → Run (d + 1) 169 27 [vR 0, .inl x, .inl (lsC (h 91) j.toNat), .inl j, z] [] h = Run (d + 1) 169 74 [vR 0, .inl x, .inl (lsC (h 91) (h 2 3).toNat), .inl (h 91 4), .inl 0] [] h := by
    intro n
    induction n with
    | zero =>
      intro j hj hjn hk
      have : j = h 2 3 := by omega
      rw [q169_27 (hz3 := hz), if_pos (by omega), this]
    | succ n ih =>
      intro j hj hjn hk
      rw [q169_27 (hz3 := hz), if_neg (by omega), wI_ok (by omega) (by omega), wI_ok (by omega) (by omega), if_pos (by omega), ← ih (j + 1) (by omega) (by omega) (by omega)]
      rw [show (j + 1).toNat = j.toNat + 1 by omega, show (21 + j).toNat = 21 + j.toNat by omega]
      rfl
  exact key _ 0 (by omega) h0 rfl
theorem m_leastHay (d : Nat) (h : MH) (h8 : h 97 26 ≤ 8) (h0 : 0 ≤ h 97 26) : Run d 296 0 [vR 97, vR 111, vU, vU] [] h = some (some (.inl (lsM (h 111) (h 97 26).toNat)), h) := by
  rw [q296_0]
  have key : ∀ (n : Nat) (j : Int), 0 ≤ j → j ≤ h 97 26 → (h 97 26 - j).toNat = n → Run d 296 5 [vR 97, vR 111, .inl (lsM (h 111) j.toNat), .inl j] [] h = some (some (.inl (lsM (h 111) (h 97 26).toNat)), h) := by
    intro n
    induction n with
    | zero =>
      intro j hj hjn hk
      have : j = h 97 26 := by omega
      rw [q296_5, if_pos (by omega), this]
    | succ n ih =>
      intro j hj hjn hk
      rw [q296_5, if_neg (by omega), wI_ok (by omega) (by omega), wI_ok (by omega) (by omega), if_pos (by omega), ← ih (j + 1) (by omega) (by omega) (by omega)]
      rw [show (j + 1).toNat = j.toNat + 1 by omega, show (0 + j).toNat = j.toNat by omega]
      rfl
  exact key _ 0 (by omega) h0 rfl
theorem ls_eq {c v : Nat → Int} {D : Int} (hD : 0 ≤ D) : ∀ n : Nat, (∀ f, f < n → v f = mn 9 (c (21 + f) + D)) → lsM v n = mn 9 (lsC c n + D)
  | 0, _ => by
    unfold lsM lsC mn
    split <;> omega
  | n + 1, h => by
    unfold lsM lsC
    rw [ls_eq hD n (fun f hf => h f (by omega)), h n (by omega)]
    unfold mn
    repeat' split
    all_goals omega
theorem lsC_b {c : Nat → Int} : ∀ n : Nat, (∀ f, f < n → 0 ≤ c (21 + f) ∧ c (21 + f) ≤ 9) → 0 ≤ lsC c n ∧ lsC c n ≤ 9
  | 0, _ => by unfold lsC; omega
  | n + 1, h => by
    have := lsC_b n (fun f hf => h f (by omega))
    have := h n (by omega)
    unfold lsC mn
    split <;> omega
theorem hays_loop (h g : MH) (x f k ls hr : Int) (c : Nat → Int) (hx : 0 ≤ x ∧ x ≤ 9) (hf : 0 ≤ f ∧ f ≤ 8) (hk : 0 ≤ k ∧ k ≤ 5) (ef : g 97 26 = f) (ek : g 97 27 = k) (hls : ls = lsC c f.toNat) (hb : 0 ≤ ls ∧ ls ≤ 9) (hh : 0 ≤ hr ∧ hr ≤ 9999) (hc : ∀ i : Nat, (i : Int) < f → 0 ≤ c (21 + i) ∧ c (21 + i) ≤ 9) :
    ∀ (n : Nat) (t : Int) (r : Nat → Int), 0 ≤ t → t ≤ 61 → (61 - t).toNat = n → r 35 = hr + t → (∀ i : Nat, (i : Int) < f → r i = mn 9 (c (21 + i) + ((hr + t) / 4 - hr / 4))) → (∀ j, j < 37 → -1000 ≤ r j ∧ r j ≤ 1000000) →
    ∃ v r2, Run 40 169 74 [vR 0, .inl x, .inl ls, .inl hr, .inl t] [] h = some (some (.inl v), h) ∧ Run 40 295 39 [vR 97, .inl x, .inl t] [] (rs g 111 r) = some (some (.inl v), rs g 111 r2) := by
  intro n
  induction n with
  | zero =>
    intro t r h0 h1 hn _ _ _
    refine ⟨-1, r, ?_, ?_⟩
    · rw [q169_74, if_pos (by omega)]
    · rw [q295_39, if_pos (by omega)]
  | succ n ih =>
    intro t r h0 h1 hn e35 er hr2
    have e1 : (wI ((wI (ls + (wI ((wI (hr + t)).tdiv 4)))) - (wI (hr.tdiv 4)))) = ls + ((hr + t) / 4 - hr / 4) := by
      rw [Int.tdiv_eq_ediv_of_nonneg hh.1, wI_ok (x := hr + t) (by omega) (by omega), Int.tdiv_eq_ediv_of_nonneg (by omega), wI_ok (x := (hr + t) / 4) (by omega) (by omega), wI_ok (x := hr / 4) (by omega) (by omega), wI_ok (x := ls + _) (by omega) (by omega), wI_ok (by omega) (by omega)]
      omega
    have e2 := ls_eq (c := c) (v := r) (D := (hr + t) / 4 - hr / 4) (by omega) f.toNat (fun i hi => er i (by omega))
    have e3 : Run 39 296 0 [vR 97, vR 111, vU, vU] [] (rs g 111 r) = some (some (.inl (mn 9 (ls + ((hr + t) / 4 - hr / 4)))), rs g 111 r) := by
      rw [m_leastHay _ _ (by rw [rs_n (by omega), ef]; exact hf.2) (by rw [rs_n (by omega), ef]; exact hf.1), rs_s, rs_n (by omega), ef, e2, hls]
    by_cases q : ls + ((hr + t) / 4 - hr / 4) < x
    · have b35 := hr2 35 (by omega)
      obtain ⟨v, r2, q1, q2⟩ := ih (t + 1) (hrM f k r) (by omega) (by omega) (by omega) (by rw [hrM_35 hf.2, e35]; omega) (fun i hi => by
          rw [hrM_hay (by omega), er i hi, e35]
          have := hc i hi
          by_cases z : (hr + t + 1) % 4 = 0
          · rw [if_pos ⟨z, hi⟩]
            unfold moreF mn
            split <;> split <;> split <;> omega
          · rw [if_neg (fun y => z y.1), show (hr + (t + 1)) / 4 = (hr + t) / 4 by omega]) (fun j hj => by
          have := hr2 j hj
          by_cases z1 : j = 35
          · subst z1; rw [hrM_35 hf.2, e35]; omega
          · by_cases z2 : j < 8
            · rw [hrM_hay z2]
              split
              · unfold moreF mn; split <;> omega
              · exact this
            · by_cases z3 : 18 ≤ j ∧ (j - 18) % 3 = 0 ∧ j < 33
              · obtain ⟨i, hi⟩ : ∃ i, j = 18 + 3 * i := ⟨(j - 18) / 3, by omega⟩
                subst hi
                rw [hrM_late (by omega) hf.2]
                split
                · unfold lessF mx; split <;> omega
                · exact this
              · rw [hrM_o hf.2 hk.2 z1 (by omega) (by omega)]
                exact this)
      refine ⟨v, r2, ?_, ?_⟩
      · rw [q169_74, if_neg (by omega), e1, if_pos q, wI_ok (by omega) (by omega)]
        exact q1
      · rw [q295_39, if_neg (by omega), e3, cI_some, if_pos (by unfold mn; split <;> omega), m_goHourT _ _ f k (by rw [rs_n (by omega), ef]) (by rw [rs_n (by omega), ek]) hf.1 hf.2 hk.1 hk.2 (by rw [rs_s]; exact hr2) (by rw [rs_s, e35]; omega), cV_some, rs_s, rs_rs, wI_ok (by omega) (by omega)]
        exact q2
    · refine ⟨t, r, ?_, ?_⟩
      · rw [q169_74, if_neg (by omega), e1, if_neg q]
      · rw [q295_39, if_neg (by omega), e3, cI_some, if_neg (by unfold mn; split <;> omega)]
theorem cpy_rs (h : MH) (f : Nat → Int) (d sp dp n : Nat) : cpy h f d sp dp n = rs h d (fun y => if dp ≤ y ∧ y < dp + n then f (sp + (y - dp)) else h d y) := by
  funext x y
  by_cases q : x = d
  · subst q; rw [cpy_at, rs_s]
  · rw [cpy_ne q, rs_n q]
theorem c_hays {b : Int} {h : MH} (i : Inv0 b h) (hb : b ≤ 1000000) (x : Int) : Pr b b 169 295 [vR 0, .inl x, vU, vU, vU] [vR 97, .inl x, vU] h := by
  obtain ⟨l1, l2, l3, l4, l5, l6, l7⟩ := lg_n i
  have o := nowOK i
  have r := nowR i
  obtain ⟨-, -, s1, s2, s3, s4, s5, s6⟩ := nowR i
  by_cases q : 0 < h 2 3 ∧ (0 ≤ x ∧ x ≤ 9)
  · have o5 := o.1.2.2.2.2.2
    have s8 : 0 ≤ h 110 36 ∧ h 110 36 ≤ 60 := by rw [s6]; split <;> omega
    have hay : ∀ i : Nat, (i : Int) < h 2 3 → 0 ≤ h 91 (21 + i) ∧ h 91 (21 + i) ≤ 9 := fun i hi => (o.2.2.2.1 i hi).1
    have om : ∀ j, j < 37 → -1000 ≤ h 110 j ∧ h 110 j ≤ 1000000 := fun j hj => by
      have := sr_all r o hb (by omega) j hj
      omega
    obtain ⟨v, r2, q1, q2⟩ := hays_loop h (up h 97 0 0) x (h 2 3) (h 2 4) (lsC (h 91) (h 2 3).toNat) (h 91 4) (h 91) q.2 ⟨l3, l4⟩ ⟨l5, l6⟩ (by rw [up_i (by omega), l1]) (by rw [up_i (by omega), l2]) rfl (lsC_b _ (fun f hf => hay f (by omega))) o.1.2.2.2.2.1 hay _ 0 (fun y => if 0 ≤ y ∧ y < 0 + (37 + 4 * h 110 36).toNat then h 110 (0 + (y - 0)) else h 111 y) (by omega) (by omega) rfl (by
        rw [if_pos (by omega), Nat.zero_add, Nat.sub_zero, s5]; omega) (fun f hf => by
        have := hay f hf
        rw [if_pos (by omega), Nat.zero_add, Nat.sub_zero, (r.1 f (by omega)).1]
        unfold mn
        split <;> omega) (fun j hj => by
        rw [if_pos (by omega), Nat.zero_add, Nat.sub_zero]
        exact om j hj)
    refine Pr_e i (v := v) (h1 := h) (h2 := rs (up h 97 0 0) 111 r2) ?_ ?_ ?_
    · rw [q169_0, e_isTold, cI_some, bi_t q.1, if_neg (by omega), if_neg (by omega), if_pos q.2.2, e_least _ _ _ rfl _ l4 l3]
      exact q1
    · rw [q295_0, if_neg (by rw [up_i (by omega), l1]; omega), m_isIn, cI_some, bi_t q.2, if_pos (by omega), m_copyT _ _ (by rw [up_a (by omega)]; exact s8.1) (by rw [up_a (by omega)]; exact s8.2), cV_some, cpy_rs]
      simp only [up_a (show 110 ≠ 97 by omega), up_ne (show 110 ≠ 97 by omega), up_a (show 111 ≠ 97 by omega)]
      exact q2
    · exact (Eqv.up rfl).tr (Eqv.rs (fun _ => rfl))
  · apply Pr_ro i
    rw [q169_0, q295_0]
    simp (disch := omega) only [e_isTold, e_hasFort, e_hasCarrier, e_isWay, e_isPowder, e_isNews, m_isIn, m_isFort, m_isCarrier, mix_c, mix_m, cI_some, cV_some, bi_0, bi_ne, bi_1, Classical.not_not, if_pos, if_neg, wI_ok, e_keepM, m_rememberM, up_mixc, up_mixm, keepC_ne, remM_ne, ↓reduceIte, not_true_eq_false, up_s, up_a, up_i, ne_eq, Nat.reduceEqDiff, not_false_eq_true, l1]
    repeat' (first | (apply Bo_if <;> intro _) | (apply Bo_if2 <;> intro _))
    all_goals first | (exfalso; omega) | exact Bo_ret rfl
