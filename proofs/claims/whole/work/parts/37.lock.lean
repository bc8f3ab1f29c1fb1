/-! class and reference in step -/
def Lk (r s : MH → Option (Option MV × MH)) (Q : MH → MH → Prop) (hc hm : MH) : Prop := ∃ v hc2 hm2, (∀ g, r (mix hc g) = some (some (.inl v), mix hc2 g)) ∧ (∀ g, s (mix g hm) = some (some (.inl v), mix g hm2)) ∧ Q hc2 hm2
theorem Lk_loop {α β : Type} {L : Int → α → MH → Option (Option MV × MH)} {M : Int → β → MH → Option (Option MV × MH)} {P : Int → α → β → MH → MH → Prop} {Q : MH → MH → Prop} {n : Int} (he : ∀ i a b hc hm, P i a b hc hm → n ≤ i → Lk (L i a) (M i b) Q hc hm)
    (hs : ∀ i a b hc hm, P i a b hc hm → i < n → Lk (L i a) (M i b) Q hc hm ∨ ∃ a2 b2 hc2 hm2, (∀ g, L i a (mix hc g) = L (i + 1) a2 (mix hc2 g)) ∧ (∀ g, M i b (mix g hm) = M (i + 1) b2 (mix g hm2)) ∧ P (i + 1) a2 b2 hc2 hm2) :
    ∀ i a b hc hm, P i a b hc hm → Lk (L i a) (M i b) Q hc hm := by
  intro i a b hc hm hP
  generalize hk : (n - i).toNat = k
  induction k generalizing i a b hc hm with
  | zero => exact he i a b hc hm hP (by omega)
  | succ k ih =>
    rcases hs i a b hc hm hP (by omega) with q | ⟨a2, b2, hc2, hm2, q1, q2, q3⟩
    · exact q
    · obtain ⟨v, hc3, hm3, z1, z2, z3⟩ := ih (i + 1) a2 b2 hc2 hm2 q3 (by omega)
      exact ⟨v, hc3, hm3, fun g => by rw [q1]; exact z1 g, fun g => by rw [q2]; exact z2 g, z3⟩
/-- loops that end in other code -/
theorem lk_loop {ρ : Type} {L : Int → MH → ρ} {M : Int → MH → ρ} {P : Int → MH → MH → Prop} {n : Int}
    (hs : ∀ i hc hm, P i hc hm → i < n → ∃ hc2 hm2, (∀ g, L i (mix hc g) = L (i + 1) (mix hc2 g)) ∧ (∀ g, M i (mix g hm) = M (i + 1) (mix g hm2)) ∧ P (i + 1) hc2 hm2) :
    ∀ i hc hm, P i hc hm → i ≤ n → ∃ hc2 hm2, (∀ g, L i (mix hc g) = L n (mix hc2 g)) ∧ (∀ g, M i (mix g hm) = M n (mix g hm2)) ∧ P n hc2 hm2 := by
  intro i hc hm hP hin
  generalize hk : (n - i).toNat = k
  induction k generalizing i hc hm with
  | zero =>
    have : i = n := by omega
    subst this
    exact ⟨hc, hm, fun _ => rfl, fun _ => rfl, hP⟩
  | succ k ih =>
    obtain ⟨hc2, hm2, q1, q2, q3⟩ := hs i hc hm hP (by omega)
    obtain ⟨hc3, hm3, z1, z2, z3⟩ := ih (i + 1) hc2 hm2 q3 (by omega) (by omega)
    exact ⟨hc3, hm3, fun g => by rw [q1, z1], fun g => by rw [q2, z2], z3⟩
theorem so_all {f k b : Int} {c : Nat → Int} (o : stOK f k b c) (hb : b ≤ 1000000) (hf : f ≤ 100) : ∀ j, j < 37 → 0 ≤ c j ∧ c j ≤ 1000000 := by
  intro j hj
  obtain ⟨⟨s1, s2, s3, s4, s5, s6⟩, o2, o3, o4, o5⟩ := o
  by_cases q : j < 6
  · rcases (show j = 0 ∨ j = 1 ∨ j = 2 ∨ j = 3 ∨ j = 4 ∨ j = 5 by omega) with z | z | z | z | z | z <;> subst z <;> omega
  · by_cases q2 : j < 21
    · obtain ⟨i, hi5, hi⟩ : ∃ i, i < 5 ∧ (j = 6 + i ∨ j = 11 + i ∨ j = 16 + i) := by
        by_cases z : j < 11
        · exact ⟨j - 6, by omega, by omega⟩
        · by_cases z2 : j < 16
          · exact ⟨j - 11, by omega, by omega⟩
          · exact ⟨j - 16, by omega, by omega⟩
      by_cases qi : (i : Int) < k
      · have := o2 i qi
        rcases hi with z | z | z <;> subst z <;> omega
      · have := o3 i (by omega) hi5
        rcases hi with z | z | z <;> subst z <;> omega
    · obtain ⟨i, hi5, hi⟩ : ∃ i, i < 8 ∧ (j = 21 + i ∨ j = 29 + i) := by
        by_cases z : j < 29
        · exact ⟨j - 21, by omega, by omega⟩
        · exact ⟨j - 29, by omega, by omega⟩
      by_cases qi : (i : Int) < f
      · have := o4 i qi
        rcases hi with z | z <;> subst z <;> omega
      · have := o5 i (by omega) hi5
        rcases hi with z | z <;> subst z <;> omega
theorem sr_all {f k b : Int} {c v : Nat → Int} (r : stR c v) (o : stOK f k b c) (hb : b ≤ 1000000) (hf : f ≤ 100) : ∀ j, j < 37 → 0 ≤ v j ∧ v j ≤ 1000000 := by
  intro j hj
  have a := so_all o hb hf
  obtain ⟨r1, r2, s1, s2, s3, s4, s5, s6⟩ := r
  by_cases q : 31 ≤ j
  · rcases (show j = 31 ∨ j = 32 ∨ j = 33 ∨ j = 34 ∨ j = 35 ∨ j = 36 by omega) with z | z | z | z | z | z <;> subst z
    · rw [s1]; exact a _ (by omega)
    · rw [s2]; exact a _ (by omega)
    · rw [s3]; exact a _ (by omega)
    · rw [s4]; exact a _ (by omega)
    · rw [s5]; exact a _ (by omega)
    · rw [s6]
      have := a 5 (by omega)
      split <;> omega
  · by_cases q2 : j < 8
    · rw [(r1 j q2).1]; exact a _ (by omega)
    · by_cases q3 : j < 16
      · have := (r1 (j - 8) (by omega)).2
        rw [show 8 + (j - 8) = j by omega] at this
        rw [this]; exact a _ (by omega)
      · have := r2 ((j - 16) / 3) (by omega)
        rcases (show j = 16 + 3 * ((j - 16) / 3) ∨ j = 17 + 3 * ((j - 16) / 3) ∨ j = 18 + 3 * ((j - 16) / 3) by omega) with z | z | z <;> rw [z]
        · rw [this.1]; exact a _ (by omega)
        · rw [this.2.1]; exact a _ (by omega)
        · rw [this.2.2]; exact a _ (by omega)
theorem m_rememberN (d : Nat) (g hm : MH) (h0 : 0 ≤ hm 97 37) (h1 : hm 97 37 ≤ 40) : Run d 229 0 [vR 97, vU] [] (mix g hm) = some (none, mix g (remM hm)) := by
  rw [m_remember d (mix g hm) h0 h1, remM_mix]
theorem e_passHourM (d : Nat) (f : Int) (hc g : MH) (hf0 : 0 ≤ f) (hf : f ≤ 8) (hb : ∀ j, j < 37 → -1000 ≤ hc 91 j ∧ hc 91 j ≤ 1000000) (h4 : 0 ≤ hc 91 4) : Run d 100 0 [vR 12, .inl f, vU] [] (mix hc g) = some (none, mix (rs hc 91 (hrC f (hc 91))) g) := by
  rw [e_passHour d f (mix hc g) hf0 hf hb h4, rs_mixc (by omega), mix_c (by omega)]
theorem m_goHourM (d : Nat) (g hm : MH) (f k : Int) (ef : hm 97 26 = f) (ek : hm 97 27 = k) (hf0 : 0 ≤ f) (hf : f ≤ 8) (hk0 : 0 ≤ k) (hk : k ≤ 5) (hb : ∀ j, j < 37 → -1000 ≤ hm 110 j ∧ hm 110 j ≤ 1000000) (h4 : 0 ≤ hm 110 35) : Run (d + 1) 247 0 [vR 97, vR 110, vU] [] (mix g hm) = some (none, mix g (rs hm 110 (hrM f k (hm 110)))) := by
  rw [m_goHour d (mix g hm) f k ef ek hf0 hf hk0 hk hb h4, rs_mixm (by omega), mix_m (by omega)]
theorem e_hoursFit (d : Nat) (x : Int) (h : MH) (h0 : 0 ≤ h 91 4) (h1 : h 91 4 ≤ 9999) : Run (d + 1) 99 0 [vR 0, .inl x] [] h = some (some (.inl (bi (0 < h 2 3 ∧ (1 ≤ x ∧ x ≤ 60) ∧ h 91 4 + x ≤ 9999))), h) := by
  rw [q99_0]
  simp only [e_isTold, cI_some, bi_0, bi_ne, bi_1, Classical.not_not]
  by_cases q1 : 0 < h 2 3
  · rw [if_neg (fun z => z q1)]
    by_cases q2 : x < 1
    · rw [if_pos q2, bi_f (by omega)]
    · rw [if_neg q2]
      by_cases q3 : 60 < x
      · rw [if_pos q3, bi_f (by omega)]
      · rw [if_neg q3, wI_ok (by omega) (by omega)]
        by_cases q4 : 9999 < h 91 4 + x
        · rw [if_pos q4, bi_f (by omega)]
        · rw [if_neg q4, bi_t (by omega)]
  · rw [if_pos q1, bi_f (by omega)]
theorem m_mayPass (d : Nat) (x y : Int) (h : MH) (h0 : 0 ≤ h 110 35) (h1 : h 110 35 ≤ 9999) (hy : y ≤ 1000) : Run (d + 1) 246 0 [vR 97, vR 110, .inl x, .inl y] [] h = some (some (.inl (bi (0 < h 97 26 ∧ (1 ≤ x ∧ x ≤ y) ∧ h 110 35 + x ≤ 9999))), h) := by
  rw [q246_0]
  simp only [m_isIn, cI_some, bi_0, bi_ne, bi_1, Classical.not_not]
  by_cases q1 : h 97 26 ≤ 0
  · rw [if_pos q1, bi_f (by omega)]
  · rw [if_neg q1]
    by_cases q2 : 1 ≤ x ∧ x ≤ y
    · rw [if_neg (fun z => z q2), wI_ok (by omega) (by omega)]
      by_cases q4 : 9999 < h 110 35 + x
      · rw [if_pos q4, bi_f (by omega)]
      · rw [if_neg q4, bi_t (by omega)]
    · rw [if_pos q2, bi_f (by omega)]
theorem m_mayPassT (d : Nat) (x y : Int) (h : MH) (h0 : 0 ≤ h 111 35) (h1 : h 111 35 ≤ 9999) (hy : y ≤ 1000) : Run (d + 1) 246 0 [vR 97, vR 111, .inl x, .inl y] [] h = some (some (.inl (bi (0 < h 97 26 ∧ (1 ≤ x ∧ x ≤ y) ∧ h 111 35 + x ≤ 9999))), h) := by
  rw [q246_0_1]
  simp only [m_isIn, cI_some, bi_0, bi_ne, bi_1, Classical.not_not]
  by_cases q1 : h 97 26 ≤ 0
  · rw [if_pos q1, bi_f (by omega)]
  · rw [if_neg q1]
    by_cases q2 : 1 ≤ x ∧ x ≤ y
    · rw [if_neg (fun z => z q2), wI_ok (by omega) (by omega)]
      by_cases q4 : 9999 < h 111 35 + x
      · rw [if_pos q4, bi_f (by omega)]
      · rw [if_neg q4, bi_t (by omega)]
    · rw [if_pos q2, bi_f (by omega)]
theorem Inv_thrown {b : Int} {hc hm : MH} (i : Inv0 b (mix hc hm)) : Inv0 b (mix hc (up hm 97 0 0)) := by
  rw [← up_mixm (by omega)]
  exact Inv0_res (res_up rfl) i
theorem resL_thrown {hc hm : MH} : resL (mix hc (up hm 97 0 0)) = resL (mix hc hm) := by
  rw [← up_mixm (by omega)]
  exact resL_up rfl
theorem mx_lg {b : Int} {hc hm : MH} (i : Inv0 b (mix hc hm)) : hm 97 26 = hc 2 3 ∧ hm 97 27 = hc 2 4 ∧ 0 ≤ hc 2 3 ∧ hc 2 3 ≤ 8 ∧ 0 ≤ hc 2 4 ∧ hc 2 4 ≤ 5 ∧ (hc 2 3 = 0 ↔ hc 2 4 = 0) := lg_n i
theorem mx_hist {b : Int} {hc hm : MH} (i : Inv0 b (mix hc hm)) : (0 ≤ hc 11 0 ∧ hc 11 0 ≤ 40) ∧ (0 ≤ hc 11 2 ∧ hc 11 2 < 40) ∧ hm 97 37 = hc 11 0 := hist_n i
theorem mx_R {b : Int} {hc hm : MH} (i : Inv0 b (mix hc hm)) : stR (hc 91) (hm 110) := nowR (h := mix hc hm) i
theorem mx_OK {b : Int} {hc hm : MH} (i : Inv0 b (mix hc hm)) : stOK (hc 2 3) (hc 2 4) b (hc 91) := nowOK (h := mix hc hm) i
/-- an hour as an act -/
theorem hour_act {b : Int} {hc hm : MH} (i : Inv0 b (mix hc hm)) (h4 : hc 91 4 + 1 ≤ 9999) : Inv0 b (mix (rs (keepC hc) 91 (hrC (hc 2 3) (hc 91))) (rs (remM hm) 110 (hrM (hc 2 3) (hc 2 4) (hm 110)))) ∧ resL (mix (rs (keepC hc) 91 (hrC (hc 2 3) (hc 91))) (rs (remM hm) 110 (hrM (hc 2 3) (hc 2 4) (hm 110)))) = resL (mix hc hm) := by
  obtain ⟨l1, l2, l3, l4, l5, l6, l7⟩ := lg_n i
  have r : stR (hc 91) (hm 110) := nowR (h := mix hc hm) i
  have o : stOK (hc 2 3) (hc 2 4) b (hc 91) := nowOK (h := mix hc hm) i
  have l4' : hc 2 3 ≤ 8 := l4
  have l6' : hc 2 4 ≤ 5 := l6
  have h40 : hc 11 2 < 40 := (hist_n i).2.1.2
  refine Inv_act i (Int.le_refl b) (fun a j _ _ h1 _ => by rw [rs_n h1]) (fun a j _ _ h1 => by rw [rs_n h1]) ?_ ?_ (Or.inl ⟨?_, ?_, fun j hj h277 => ?_⟩)
  · rw [rs_s, rs_s]; exact hr_R r o l4' l6'
  · rw [rs_s]; exact hr_OK o l4' l6' h4
  · rw [rs_s, hrC_o l4' (by omega) (by omega)]
  · rw [rs_n (by omega), keepC_ne h40 (by omega) (by omega)]
  · rw [rs_s, hrM_o l4' l6' (by omega) (by omega) (by omega)]
theorem c_hours {b : Int} {h : MH} (i : Inv0 b h) (hb : b ≤ 1000000) (x : Int) : Pr b b 98 245 [vR 0, .inl x, vU] [vR 97, .inl x, vU] h := by
  obtain ⟨l1, l2, l3, l4, l5, l6, l7⟩ := lg_n i
  have o := nowOK i
  obtain ⟨-, -, s1, s2, s3, s4, s5, s6⟩ := nowR i
  have o4 := o.1.2.2.2.2.1
  by_cases q : 0 < h 2 3 ∧ (1 ≤ x ∧ x ≤ 60) ∧ h 91 4 + x ≤ 9999
  · apply Pr_M
    have key := Lk_loop (L := fun j (_ : Unit) h => Run 40 98 12 [vR 0, .inl x, .inl j] [] h) (M := fun j (_ : Unit) h => Run 40 245 23 [vR 97, .inl x, .inl j] [] h) (P := fun j _ _ hc hm => 0 ≤ j ∧ Inv0 b (mix hc hm) ∧ resL (mix hc hm) = resL (mix h h) ∧ (j ≤ x → hc 91 4 + (x - j) ≤ 9999)) (Q := fun hc hm => Inv0 b (mix hc hm) ∧ resL (mix hc hm) = resL (mix h h)) (n := x) ?_ ?_ 0 () () h (up h 97 0 0) ⟨by omega, Inv_thrown (by rw [mix_self]; exact i), resL_thrown, by omega⟩
    · obtain ⟨v, hc2, hm2, z1, z2, z3⟩ := key
      refine ⟨v, hc2, hm2, fun g => ?_, fun g => ?_, z3⟩
      · rw [q98_0, e_hoursFit _ _ _ (show 0 ≤ mix h g 91 4 from o4.1) o4.2, cI_some, bi_t (show 0 < mix h g 2 3 ∧ (1 ≤ x ∧ x ≤ 60) ∧ mix h g 91 4 + x ≤ 9999 from q), if_pos (by omega)]
        exact z1 g
      · rw [q245_0, up_mixm (by omega), m_mayPass _ _ _ _ (by show 0 ≤ h 110 35; omega) (by show h 110 35 ≤ 9999; omega) (by omega), cI_some, bi_t (by show 0 < h 97 26 ∧ (1 ≤ x ∧ x ≤ 60) ∧ h 110 35 + x ≤ 9999; omega), if_pos (by omega)]
        exact z2 g
    · rintro j _ _ hc hm ⟨p1, p2, p3, p4⟩ hj
      have r5 : hm 110 35 = hc 91 4 := (nowR p2).2.2.2.2.2.2.1
      refine ⟨hc 91 4, hc, hm, fun g => ?_, fun g => ?_, p2, p3⟩
      · dsimp only
        rw [q98_12, if_pos hj, mix_c (by omega)]
      · dsimp only
        rw [q245_23, if_pos hj, mix_m (by omega), r5]
    · rintro j _ _ hc hm ⟨p1, p2, p3, p4⟩ hj
      right
      obtain ⟨k1, k2, k3, k4, k5, k6, k7⟩ := mx_lg p2
      obtain ⟨hh1, hh2, hh3⟩ := mx_hist p2
      have oc := so_all (mx_OK p2) hb (by omega)
      have om := sr_all (mx_R p2) (mx_OK p2) hb (by omega)
      have p5 := p4 (by omega)
      have hx := hour_act p2 (by omega)
      refine ⟨(), (), _, _, fun g => ?_, fun g => ?_, by omega, hx.1, by rw [hx.2, p3], fun _ => ?_⟩
      · rw [q98_12, if_neg (by omega), e_keepM _ _ _ hh2.1 hh2.2 hh1.1 hh1.2, cV_some, mix_c (by omega), keepC_ne hh2.2 (by omega) (by omega), e_passHourM _ _ (keepC hc) _ k3 k4 (fun j hj => by rw [keepC_ne hh2.2 (by omega) (by omega)]; have := oc j hj; omega) (by rw [keepC_ne hh2.2 (by omega) (by omega)]; exact (oc 4 (by omega)).1), cV_some, wI_ok (by omega) (by omega), keepC_ne hh2.2 (by omega) (by omega)]
      · rw [q245_23, if_neg (by omega), m_rememberN _ _ _ (by omega) (by omega), cV_some, m_goHourM _ _ (remM hm) (hc 2 3) (hc 2 4) (by rw [remM_f (by omega), k1]) (by rw [remM_f (by omega), k2]) k3 k4 k5 k6 (fun j hj => by rw [remM_ne (by omega) (by omega)]; have := om j hj; omega) (by rw [remM_ne (by omega) (by omega)]; exact (om 35 (by omega)).1), cV_some, wI_ok (by omega) (by omega), remM_ne (by omega) (by omega)]
      · rw [rs_s, hrC_4]
        omega
  · apply Pr_no i (v := -1)
    · rw [q98_0, e_hoursFit _ _ _ o4.1 o4.2, cI_some, bi_f q, if_neg (by omega)]
    · rw [q245_0, m_mayPass _ _ _ _ (by show 0 ≤ h 110 35; omega) (by show h 110 35 ≤ 9999; omega) (by omega), cI_some, bi_f (by show ¬ (0 < h 97 26 ∧ (1 ≤ x ∧ x ≤ 60) ∧ h 110 35 + x ≤ 9999); omega), if_neg (by omega)]
