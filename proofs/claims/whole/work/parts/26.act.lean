/-! an act: the state is kept, then changed -/
theorem stR_congr {c c2 v v2 : Nat → Int} (e : ∀ j, j < 37 → c2 j = c j) (e2 : ∀ j, j < 37 → v2 j = v j) (r : stR c v) : stR c2 v2 := by
  obtain ⟨r1, r2, r3, r4, r5, r6, r7, r8⟩ := r
  refine ⟨fun f hf => ?_, fun k hk => ?_, ?_, ?_, ?_, ?_, ?_, ?_⟩
  · rw [e2 _ (by omega), e2 _ (by omega), e _ (by omega), e _ (by omega)]; exact r1 f hf
  · rw [e2 _ (by omega), e2 _ (by omega), e2 _ (by omega), e _ (by omega), e _ (by omega), e _ (by omega)]; exact r2 k hk
  all_goals rw [e2 _ (by omega), e _ (by omega)]; assumption
theorem stOK_congr {f k b b2 : Int} {c c2 : Nat → Int} (hb : b ≤ b2) (e : ∀ j, j < 37 → c2 j = c j) (hf : f ≤ 8) (hk : k ≤ 5) (r : stOK f k b c) : stOK f k b2 c2 := by
  obtain ⟨⟨r1, r2, r3, r4, r5, r6⟩, r7, r8, r9, r10⟩ := r
  refine ⟨⟨?_, ?_, ?_, ?_, ?_, ?_⟩, fun i hi => ?_, fun i hi h5 => ?_, fun i hi => ?_, fun i hi h5 => ?_⟩
  · rw [e _ (by omega)]; exact r1
  · rw [e _ (by omega)]; exact r2
  · rw [e _ (by omega)]; exact r3
  · rw [e _ (by omega)]; exact r4
  · rw [e _ (by omega)]; exact r5
  · rw [e _ (by omega)]; omega
  · rw [e _ (by omega), e _ (by omega), e _ (by omega)]; exact r7 i hi
  · rw [e _ (by omega), e _ (by omega), e _ (by omega)]; exact r8 i hi h5
  · rw [e _ (by omega), e _ (by omega)]; exact r9 i hi
  · rw [e _ (by omega), e _ (by omega)]; exact r10 i hi h5
theorem lgR_congr {L L2 : Nat → Nat → Int} {s s2 : Int} {v v2 : Nat → Int} (es : s2 = s) (hs : 0 ≤ s) (eL : ∀ n : Nat, (n : Int) < s → ∀ w, w < 4 → L2 n w = L n w) (e : ∀ j, 37 ≤ j → j < 277 → v2 j = v j) (r : lgR L s v) : lgR L2 s2 v2 := by
  subst es
  intro n hn h60 w hw
  rw [eL n hn w hw, e _ (by omega) (by omega)]
  exact r n hn h60 w hw
def shotR (s : Int) (sh sh2 v v2 : Nat → Int) : Prop := ∃ x : Nat → Int, (∀ n w : Nat, w < 4 → n < 100 → sh2 (4 * n + w) = if n = s.toNat % 100 then x w else sh (4 * n + w)) ∧ (∀ n w : Nat, w < 4 → n < 60 → (n : Int) ≤ s → v2 (37 + 4 * n + w) = if s < 60 then (if (n : Int) = s then x w else v (37 + 4 * n + w)) else (if n = 59 then x w else v (37 + 4 * (n + 1) + w)))
theorem iNow_act {b b2 : Int} {h h2 : MH} (i : iNow b h) (hb : b ≤ b2) (hf : h 2 3 ≤ 8) (hk : h 2 4 ≤ 5)
    (el1 : h2 2 3 = h 2 3) (el2 : h2 2 4 = h 2 4) (et : h2 11 2 = (h 11 2 + 1) % 40) (ec : h2 11 0 = mn 40 (h 11 0 + 1))
    (er : ∀ j, j < 37 → h2 (51 + (h 11 2).toNat) j = h 91 j) (er2 : ∀ k, k < 40 → k ≠ (h 11 2).toNat → h2 (51 + k) = h (51 + k))
    (ea : h2 97 37 = h2 11 0) (eu : ∀ i : Nat, (i : Int) < h2 11 0 → ∀ j, j < 277 → uRow h2 i j = if i = 0 then h 110 j else uRow h (i - 1) j)
    (st : stR (h2 91) (h2 110)) (ok : stOK (h 2 3) (h 2 4) b2 (h2 91))
    (lg : (h2 91 5 = h 91 5 ∧ h2 92 = h 92 ∧ ∀ j, 37 ≤ j → j < 277 → h2 110 j = h 110 j) ∨ (h2 91 5 = h 91 5 + 1 ∧ shotR (h 91 5) (h 92) (h2 92) (h 110) (h2 110))) : iNow b2 h2 := by
  obtain ⟨L, M, ⟨r1, r2, r3, r4⟩, ⟨c1, c2, c3⟩, rows, hM⟩ := i
  have hs0 : 0 ≤ h 91 5 := r2.1.2.2.2.2.2.1
  have hc2 : h2 11 0 ≤ 40 ∧ h2 11 0 ≤ h 11 0 + 1 ∧ 0 ≤ h2 11 0 := by
    rw [ec]; unfold mn; split <;> omega
  have row0 : ∀ j, j < 37 → hRow h2 0 j = h 91 j := by
    intro j hj
    unfold hRow
    rw [et, show ((h 11 2 + 1) % 40 + 39 - (0 : Nat)).toNat % 40 = (h 11 2).toNat by omega]
    exact er j hj
  have rowS : ∀ i : Nat, 1 ≤ i → i < 40 → hRow h2 i = hRow h (i - 1) := by
    intro i h1 h40
    unfold hRow
    rw [et, show ((h 11 2 + 1) % 40 + 39 - (i : Nat)).toNat % 40 = (h 11 2 + 39 - (i - 1 : Nat)).toNat % 40 by omega]
    exact er2 _ (by omega) (by omega)
  have hss : h2 91 5 = h 91 5 ∨ h2 91 5 = h 91 5 + 1 := by
    rcases lg with q | q
    · exact Or.inl q.1
    · exact Or.inr q.1
  have main : ∃ (L2 : Nat → Nat → Int) (M2 : Int), (∀ n : Nat, (n : Int) < h 91 5 → ∀ w, L2 n w = L n w) ∧ lgR L2 (h2 91 5) (h2 110) ∧ rgR L2 M2 (h2 91 5) (h2 92) ∧ (M2 = M ∨ M2 = h 91 5 + 1) := by
    rcases lg with ⟨q1, q2, q3⟩ | ⟨q1, x, q2, q3⟩
    · refine ⟨L, M, fun _ _ _ => rfl, ?_, ?_, Or.inl rfl⟩
      · exact lgR_congr q1 hs0 (fun _ _ _ _ => rfl) q3 r3
      · rw [q1, q2]; exact r4
    · obtain ⟨g1, g2⟩ := r4
      refine ⟨fun n w => if (n : Int) = h 91 5 then x w else L n w, if M ≤ h 91 5 then h 91 5 + 1 else M, fun n hn w => if_neg (by omega), ?_, ?_, ?_⟩
      · rw [q1]
        intro n hn h60 w hw
        dsimp only
        by_cases q : h 91 5 < 60
        · rw [show (h 91 5 + 1 - 60).toNat = 0 by omega, Nat.sub_zero, q3 n w hw (by omega) (by omega), if_pos q]
          by_cases qn : (n : Int) = h 91 5
          · rw [if_pos qn, if_pos qn]
          · rw [if_neg qn, if_neg qn, ← r3 n (by omega) (by omega) w hw, show (h 91 5 - 60).toNat = 0 by omega, Nat.sub_zero]
        · rw [q3 _ w hw (by omega) (by omega), if_neg q]
          by_cases qn : (n : Int) = h 91 5
          · rw [if_pos qn, if_pos (by omega)]
          · rw [if_neg qn, if_neg (by omega), ← r3 n (by omega) (by omega) w hw]
            congr 1
            omega
      · refine ⟨by rw [q1]; split <;> omega, ?_⟩
        intro n hn hM2 w hw
        dsimp only
        have hM3 : h 91 5 + 1 ≤ n + 100 ∧ M ≤ n + 100 := by split at hM2 <;> omega
        rw [q2 _ w hw (by omega)]
        by_cases qn : (n : Int) = h 91 5
        · rw [if_pos qn, if_pos (by omega)]
        · rw [if_neg qn, if_neg (by omega)]
          exact g2 n (by omega) (by omega) w hw
      · by_cases q : M ≤ h 91 5
        · rw [if_pos q]; exact Or.inr rfl
        · rw [if_neg q]; exact Or.inl rfl
  obtain ⟨L2, M2, m1, m2, m3, m4⟩ := main
  refine ⟨L2, M2, ⟨st, by rw [el1, el2]; exact ok, m2, m3⟩, ⟨⟨hc2.2.2, hc2.1⟩, by omega, ea⟩, ?_, by omega⟩
  intro i hi
  rw [el1, el2]
  by_cases q : i = 0
  · subst q
    have u0 : ∀ j, j < 277 → uRow h2 0 j = h 110 j := fun j hj => by rw [eu 0 hi j hj, if_pos rfl]
    have e5 := row0 5 (by omega)
    refine ⟨stR_congr row0 (fun j hj => u0 j (by omega)) r1, stOK_congr hb row0 hf hk r2, lgR_congr e5 hs0 (fun n hn w hw => m1 n hn w) (fun j _ hj => u0 j hj) r3, by omega, by omega, by omega, fun j hj => by omega⟩
  · have u0 : ∀ j, j < 277 → uRow h2 i j = uRow h (i - 1) j := fun j hj => by rw [eu i hi j hj, if_neg q]
    have e1 := rowS i (by omega) (by omega)
    obtain ⟨d1, d2, d3, d4, d5, d6, d7⟩ := rows (i - 1) (by omega)
    have hp : 0 ≤ hRow h (i - 1) 5 := d2.1.2.2.2.2.2.1
    rw [e1]
    refine ⟨stR_congr (fun _ _ => rfl) (fun j hj => u0 j (by omega)) d1, stOK_congr hb (fun _ _ => rfl) hf hk d2, lgR_congr rfl hp (fun n hn w hw => m1 n (by omega) w) (fun j _ hj => u0 j hj) d3, by omega, by omega, by omega, fun j hj => ?_⟩
    by_cases qj : j = 0
    · subst qj
      rw [row0 5 (by omega)]
      omega
    · rw [rowS j (by omega) (by omega)]
      have := d7 (j - 1) (by omega)
      omega
