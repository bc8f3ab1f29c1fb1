/-! a league is told: what holds then -/
theorem nc_6 {S : LgS} {k : Nat} (b2 : S.2.2.2.1 ≤ 5) (hk : k < 5) : ncF S (6 + k) = if k < S.2.2.2.1 then S.2.2.2.2 (3 * k + 2) else 0 := by
  unfold ncF
  rw [if_neg (c := 6 + k = 0) (by omega), if_neg (c := 6 + k = 1) (by omega), if_neg (c := 6 + k = 2) (by omega)]
  by_cases z : k < S.2.2.2.1
  · rw [if_pos z, if_pos (c := 6 ≤ 6 + k ∧ 6 + k < 6 + S.2.2.2.1) (by omega), show 3 * (6 + k - 6) + 2 = 3 * k + 2 by omega]
  · rw [if_neg z, if_neg (c := 6 ≤ 6 + k ∧ 6 + k < 6 + S.2.2.2.1) (by omega), if_neg (c := 21 ≤ 6 + k ∧ 6 + k < 21 + S.2.2.1.1) (by omega)]
theorem nc_z {S : LgS} {j : Nat} (b1 : S.2.2.1.1 ≤ 8) (b2 : S.2.2.2.1 ≤ 5) (hj : (3 ≤ j ∧ j < 6) ∨ (11 ≤ j ∧ j < 21) ∨ 29 ≤ j) : ncF S j = 0 := by
  unfold ncF
  rw [if_neg (c := j = 0) (by omega), if_neg (c := j = 1) (by omega), if_neg (c := j = 2) (by omega), if_neg (c := 6 ≤ j ∧ j < 6 + S.2.2.2.1) (by omega), if_neg (c := 21 ≤ j ∧ j < 21 + S.2.2.1.1) (by omega)]
theorem nc_21 {S : LgS} {f : Nat} (b2 : S.2.2.2.1 ≤ 5) (hf : f < 8) : ncF S (21 + f) = if f < S.2.2.1.1 then S.2.2.1.2 (3 * f + 2) else 0 := by
  unfold ncF
  rw [if_neg (c := 21 + f = 0) (by omega), if_neg (c := 21 + f = 1) (by omega), if_neg (c := 21 + f = 2) (by omega), if_neg (c := 6 ≤ 21 + f ∧ 21 + f < 6 + S.2.2.2.1) (by omega)]
  by_cases z : f < S.2.2.1.1
  · rw [if_pos z, if_pos (c := 21 ≤ 21 + f ∧ 21 + f < 21 + S.2.2.1.1) (by omega), show 21 + f - 21 = f by omega]
  · rw [if_neg z, if_neg (c := 21 ≤ 21 + f ∧ 21 + f < 21 + S.2.2.1.1) (by omega)]
theorem ro_v : (ro 122 0 = 0 ∧ ro 123 0 = 9) ∧ (ro 122 1 = 0 ∧ ro 123 1 = 1) ∧ (ro 122 2 = 0 ∧ ro 123 2 = 99) ∧ (ro 122 3 = 1 ∧ ro 123 3 = 6) ∧ (ro 122 4 = 0 ∧ ro 123 4 = 40) ∧ (ro 122 5 = 0 ∧ ro 123 5 = 9) ∧ (ro 122 6 = 0 ∧ ro 123 6 = 9) ∧ (ro 122 7 = 1 ∧ ro 123 7 = 9) ∧ (ro 122 8 = 0 ∧ ro 123 8 = 9) ∧ (ro 122 9 = 0 ∧ ro 123 9 = 7) := by decide +kernel
theorem lg_S {S : LgS} (b : lsB S) (w : whP S) : lgOK S.2.2.1.1 S.2.2.2.1 S.2.1 S.2.2.1.2 S.2.2.2.2 := by
  obtain ⟨b1, b2, b3, b4, b5⟩ := b
  obtain ⟨⟨w1, w2⟩, w3, w4⟩ := w
  obtain ⟨r0, r1, r2, r3, r4, r5, r6, r7, r8, r9⟩ := ro_v
  have q0 := b3 0 (by omega)
  have q1 := b3 1 (by omega)
  have q2 := b3 2 (by omega)
  have q3 := b3 3 (by omega)
  refine ⟨by omega, by omega, ⟨by omega, by omega, by omega, by omega⟩, fun i hi => ?_, fun i j hi hj e => ?_, fun i hi => ?_⟩
  · have p0 : ro 122 4 ≤ S.2.2.1.2 (3 * i) ∧ S.2.2.1.2 (3 * i) ≤ ro 123 4 := b4 i 0 (by omega) (by omega)
    have p1 : ro 122 5 ≤ S.2.2.1.2 (3 * i + 1) ∧ S.2.2.1.2 (3 * i + 1) ≤ ro 123 5 := b4 i 1 (by omega) (by omega)
    have p2 : ro 122 6 ≤ S.2.2.1.2 (3 * i + 2) ∧ S.2.2.1.2 (3 * i + 2) ≤ ro 123 6 := b4 i 2 (by omega) (by omega)
    exact ⟨by omega, by omega, by omega⟩
  · rcases Nat.lt_trichotomy i j with z | z | z
    · exact absurd e.symm (w3 j (by omega) i z)
    · exact z
    · exact absurd e (w3 i (by omega) j z)
  · have p0 : ro 122 7 ≤ S.2.2.2.2 (3 * i) ∧ S.2.2.2.2 (3 * i) ≤ ro 123 7 := b5 i 0 (by omega) (by omega)
    have p1 : ro 122 8 ≤ S.2.2.2.2 (3 * i + 1) ∧ S.2.2.2.2 (3 * i + 1) ≤ ro 123 8 := b5 i 1 (by omega) (by omega)
    have p2 : ro 122 9 ≤ S.2.2.2.2 (3 * i + 2) ∧ S.2.2.2.2 (3 * i + 2) ≤ ro 123 9 := b5 i 2 (by omega) (by omega)
    have p3 := w4 i (by omega)
    exact ⟨by omega, by omega, by omega, by omega⟩
theorem nc_OK {S : LgS} (l : lsB S) (w : whP S) {b : Int} (b0 : 0 ≤ b) {c : Nat → Int} (hc : ∀ j, j < 37 → c j = ncF S j) : stOK S.2.2.1.1 S.2.2.2.1 b c := by
  obtain ⟨⟨k1, k2⟩, ⟨k3, k4⟩, ⟨k5, k6, k7, k8⟩, k9, -, k10⟩ := lg_S l w
  have b1 : S.2.2.1.1 ≤ 8 := l.1
  have b2 : S.2.2.2.1 ≤ 5 := l.2.1
  have e0 : c 0 = S.2.1 2 := by rw [hc _ (by omega)]; rfl
  have e1 : c 1 = S.2.1 0 := by rw [hc _ (by omega)]; rfl
  have e2 : c 2 = S.2.1 1 := by rw [hc _ (by omega)]; rfl
  have ez : ∀ j, j < 37 → ((3 ≤ j ∧ j < 6) ∨ (11 ≤ j ∧ j < 21) ∨ 29 ≤ j) → c j = 0 := fun j hj z => by rw [hc j hj]; exact nc_z b1 b2 z
  refine ⟨⟨by rw [e0]; omega, by rw [e1]; omega, by rw [e2]; exact k6, by rw [ez 3 (by omega) (by omega)]; omega, by rw [ez 4 (by omega) (by omega)]; omega, by rw [ez 5 (by omega) (by omega)]; omega⟩, fun i hi => ?_, fun i hi h5 => ?_, fun i hi => ?_, fun i hi h8 => ?_⟩
  · have p := k10 i hi
    rw [hc (6 + i) (by omega), nc_6 b2 (by omega), if_pos (by omega), ez (11 + i) (by omega) (by omega), ez (16 + i) (by omega) (by omega)]
    exact ⟨p.2.2, by omega, by omega⟩
  · rw [hc (6 + i) (by omega), nc_6 b2 (by omega), if_neg (by omega), ez (11 + i) (by omega) (by omega), ez (16 + i) (by omega) (by omega)]
    exact ⟨rfl, rfl, rfl⟩
  · have p := k9 i hi
    rw [hc (21 + i) (by omega), nc_21 b2 (by omega), if_pos (by omega), ez (29 + i) (by omega) (by omega)]
    exact ⟨p.2.2, by omega⟩
  · rw [hc (21 + i) (by omega), nc_21 b2 (by omega), if_neg (by omega), ez (29 + i) (by omega) (by omega)]
    exact ⟨rfl, rfl⟩
theorem InvX_league {b : Int} {Ws : Nat → WF} {g g2 : MH} (i : InvX b Ws g) {S : LgS} (l : lsB S) (w : whP S) (e : ∀ a j, relB a j = true → ¬ coG a j → g2 a j = g a j) (c1 : g2 1 1 = 0) (c2 : g2 97 6 = 0) (c3 : lgD S g2) (c4 : g2 97 26 = S.2.2.1.1) (c5 : g2 97 27 = S.2.2.2.1) (c6 : ∀ k, k < 4 → g2 102 k = S.2.1 k) (c7 : ∀ j, j < 3 * S.2.2.1.1 → g2 104 j = S.2.2.1.2 j) (c8 : ∀ j, j < 3 * S.2.2.2.1 → g2 106 j = S.2.2.2.2 j) (c9 : ∀ j, j < 37 → g2 91 j = ncF S j) (c10 : ∀ j, j < 37 → g2 110 j = nmV S j) (c11 : g2 11 0 = 0) (c12 : g2 97 37 = 0) (c13 : g2 10 2 = 0) (c14 : g2 10 3 = 0) (c15 : g2 97 46 = 0) (c16 : g2 97 49 = 0) (c17 : g2 0 13 = 0) (c18 : g2 97 51 = 0) (c19 : ∀ j, j < 40 → g2 39 j = 0) : InvX b Ws g2 := by
  obtain ⟨t1, t2, t3, t4, t5, t6, t7, t8⟩ := (Inv0_iff b g).mp i.1.1
  obtain ⟨d1, d2, d3, d4, d5⟩ := c3
  have b1 : S.2.2.1.1 ≤ 8 := l.1
  have b2 : S.2.2.2.1 ≤ 5 := l.2.1
  have b0 : 0 ≤ b := by
    obtain ⟨L, M, ⟨-, o, -, -⟩, -⟩ := t4
    have := o.1.2.2.2.2.2
    omega
  have ht : 0 ≤ g 11 2 ∧ g 11 2 < 40 := by
    obtain ⟨L, M, -, ⟨-, o, -⟩, -⟩ := t4
    exact o
  have eh : g2 11 2 = g 11 2 := e _ _ rfl (by unfold coG; omega)
  have e5 : g2 91 5 = 0 := by rw [c9 5 (by omega)]; exact nc_z b1 b2 (by omega)
  have ec : g2 7 1 = g 7 1 := e _ _ rfl (by unfold coG; omega)
  have lk := lg_S l w
  have inv : Inv0 b g2 := by
    refine (Inv0_iff b g2).mpr ⟨⟨by rw [c1]; omega, by rw [c1, c2], fun k hk => by rw [c1] at hk; omega⟩, iDamp_c (e _ _ rfl (by unfold coG; omega)) (e _ _ rfl (by unfold coG; omega)) t2, ?_, ?_, ?_, ?_, ?_, iLw_c (e _ _ rfl (by unfold coG; omega)) (e _ _ rfl (by unfold coG; omega)) (e _ _ rfl (by unfold coG; omega)) (e _ _ rfl (by unfold coG; omega)) t8⟩
    · refine ⟨by rw [c4, d1], by rw [c5, d2], Or.inr ?_, fun k hk => by rw [c6 k hk, d3 k hk], fun k hk => ?_, fun k hk => ?_⟩
      · rw [d1, d2]
        obtain ⟨k1, k2, ⟨k3, k4, k5, k6⟩, k7, k8, k9⟩ := lk
        refine ⟨k1, k2, ⟨by rw [d3 0 (by omega)]; exact k3, by rw [d3 1 (by omega)]; exact k4, by rw [d3 2 (by omega)]; exact k5, by rw [d3 3 (by omega)]; exact k6⟩, fun n hn => ?_, fun n m hn hm z => ?_, fun n hn => ?_⟩
        · rw [d4 (3 * n) (by omega), d4 (3 * n + 1) (by omega), d4 (3 * n + 2) (by omega)]; exact k7 n hn
        · rw [d4 (3 * n) (by omega), d4 (3 * m) (by omega)] at z; exact k8 n m hn hm z
        · rw [d5 (3 * n) (by omega), d5 (3 * n + 1) (by omega), d5 (3 * n + 2) (by omega)]; exact k9 n hn
      · rw [d1] at hk
        rw [c7 k (by omega), d4 k (by omega)]
      · rw [d2] at hk
        rw [c8 k (by omega), d5 k (by omega)]
    · refine ⟨fun _ _ => 0, 0, ⟨nc_R b1 b2 c9 c10, ?_, ?_, ?_⟩, ⟨by rw [c11]; omega, by rw [eh]; exact ht, by rw [c11, c12]⟩, fun n hn => by rw [c11] at hn; omega, by rw [e5]; omega⟩
      · rw [d1, d2]; exact nc_OK l w b0 c9
      · intro n hn; rw [e5] at hn; omega
      · refine ⟨by rw [e5]; omega, fun n hn => by rw [e5] at hn; omega⟩
    · refine ⟨by rw [c17, c18], Or.inl c17, fun z => by rw [c17] at z; omega⟩
    · refine ⟨⟨by rw [c15, c13], by rw [c13]; omega, by rw [c13]; omega⟩, ⟨by rw [c16, c14], by rw [c14]; omega, by rw [c14]; omega⟩, fun n hn => by rw [c13] at hn; omega, fun n hn => by rw [c14] at hn; omega⟩
    · obtain ⟨⟨p1, p2, p3⟩, p4⟩ := t7
      refine ⟨⟨by rw [e 97 30 rfl (by unfold coG; omega), ec]; exact p1, by rw [ec]; exact p2, by rw [ec]; exact p3⟩, fun k hk => ?_⟩
      rw [ec] at hk
      obtain ⟨q1, q2, q3⟩ := p4 k hk
      have es : g2 31 k = g 31 k := e _ _ rfl (by unfold coG; omega)
      have er : g2 (33 + k) = g (33 + k) := funext fun j => e _ _ (rel_p j k (by omega)) (by unfold coG; omega)
      rw [es, er, e 109 k rfl (by unfold coG; omega)]
      refine ⟨q1, q2, fun n hn => ?_⟩
      obtain ⟨r1, r2⟩ := q3 n hn
      exact ⟨fun y hy => by rw [e 108 _ rfl (by unfold coG; omega)]; exact r1 y hy, r2⟩
  refine ⟨⟨inv, fun k hk h4 => ?_⟩, fun c f hc hf lw wd wy dp h1 h2 h3 h4 h5 h6 h7 h8 to ht => ?_, fun c f hc hf => ?_⟩
  · rw [e 6 1 rfl (by unfold coG; omega)] at hk
    have er : g2 (25 + k) = g (25 + k) := funext fun j => e _ _ (rlL_c h4 j) (by unfold coG; omega)
    have et : (fun j => g2 99 (240 * k + j)) = fun j => g 99 (240 * k + j) := funext fun j => e _ _ rfl (by unfold coG; omega)
    rw [er, et, e 29 k rfl (by unfold coG; omega), e 100 k rfl (by unfold coG; omega)]
    exact i.1.2 k hk h4
  · rw [d2] at hc
    rw [d1] at hf
    rw [c19 (8 * c + f) (by omega)] at h8
    omega
  · rw [d2] at hc
    rw [d1] at hf
    rw [c19 (8 * c + f) (by omega), e 6 1 rfl (by unfold coG; omega)]
    have := (lw_n i.1.1).2.1
    omega
theorem t_league {b : Int} {Ws : Nat → WF} {h : MH} (i : InvX b Ws h) : PrE b b 44 216 [vR 0, .inl 0] [vR 97, .inl 0, vU, vU] h := by
  obtain ⟨L, e1, e2, e3, e4, e5⟩ := tp_n i.1.1
  obtain ⟨h1, u1, u2, u3⟩ := rd_league i.1.1 e1 30
  have hd := q44_0 39 0 h
  rw [if_neg (fun z => z rfl), u1, cI_some] at hd
  cases hs : (lgF (h 15) L 241 0 lsZ).2 with
  | none =>
    rw [if_pos (flO_ne hs), q44_27, if_pos (by omega), q44_83, if_pos (by omega)] at hd
    exact (t_fail i hd u2 e2 e3 e4 e5 (Or.inr (Or.inr (Or.inr (by rw [if_pos rfl]; exact flO_ne hs))))).E
  | some S =>
    obtain ⟨s1, s2, s3⟩ := u3 S hs
    have b1 : S.2.2.1.1 ≤ 8 := s2.1
    have b2 : S.2.2.2.1 ≤ 5 := s2.2.1
    obtain ⟨H1, v1, v2, v3, v4, v5, v6, v7, v8, v9, v10⟩ := e_begin s1 b1 b2 36
    rw [if_neg (fun z => z (flO_eq hs)), v1, cV_some, v3.1] at hd
    have km : ∀ c, 97 ≤ c → H1 c = h c := fun c hc => funext fun j => by rw [v2 c j (by omega) (by omega) (by omega) (by omega) (by omega) (by omega) (by omega) (by omega) (by omega) (by omega), u2.m hc]
    have f0 := FRm_th H1 0
    obtain ⟨v, h2, x1, x2, x3, x4, -⟩ := m_fault (T := h 15) (L := L) e4 e3 (g := up H1 97 0 0) (by rw [up_i (by omega), km _ (by omega)]; exact e2) (by rw [up_ne (by omega), km _ (by omega)]; exact e5) 6 0
    rw [if_pos rfl, flO_eq hs] at x3
    subst x3
    have dm := x4 rfl S hs
    have fr := f0.tr x2
    obtain ⟨p1, p2, p3, p4, p5, p6⟩ := id dm
    have q1 : up h2 97 6 0 97 28 = S.2.2.1.1 := by rw [up_i (by omega)]; exact p2
    have q2 : up (up h2 97 6 0) 97 26 (S.2.2.1.1 : Int) 97 29 = S.2.2.2.1 := by rw [up_i (by omega), up_i (by omega)]; exact p3
    obtain ⟨hB, hhB⟩ : ∃ hB, hB = up (up (up h2 97 6 0) 97 26 (S.2.2.1.1 : Int)) 97 27 (S.2.2.2.1 : Int) := ⟨_, rfl⟩
    have dB : dfM S hB := by
      refine ⟨?_, ?_, ?_, ?_, ?_, ?_⟩
      · rw [hhB, up_i (by omega), up_i (by omega), up_i (by omega)]; exact p1
      · rw [hhB, up_i (by omega), up_i (by omega), up_i (by omega)]; exact p2
      · rw [hhB, up_i (by omega), up_i (by omega), up_i (by omega)]; exact p3
      · rw [hhB, up_ne (by omega), up_ne (by omega), up_ne (by omega)]; exact p4
      · rw [hhB, up_ne (by omega), up_ne (by omega), up_ne (by omega)]; exact p5
      · rw [hhB, up_ne (by omega), up_ne (by omega), up_ne (by omega)]; exact p6
    obtain ⟨H2, y1, y2, y3, y4, y5, y6, y7, y8, y9, y10⟩ := m_adopt dB b1 b2 39 (z0 := .inl 0) (z1 := .inl (h2 97 6)) rfl rfl (by rw [hhB, up_i (by omega), up_s]) (by rw [hhB, up_s])
    have hm : Run 40 216 0 [vR 97, .inl 0, vU, vU] [] H1 = some (some (.inl (S.2.2.1.1 : Int)), H2) := by
      rw [m_textGo (by omega) (fun z => by omega) (fun z => by omega) 39, q216_43 (hz1 := rfl) (hz2 := rfl), x1, cI_some, if_pos rfl, if_pos (by omega), if_pos (by omega), q1, q2, ← hhB]
      exact y1
    have s9 : ∀ (a j : Nat) (g : MH) (c k : Nat) (v : Int), ¬ (a = c ∧ j = k) → up g c k v a j = g a j := by
      intro a j g c k v ne
      by_cases z : a = c
      · subst z; exact up_i (fun y => ne ⟨rfl, y⟩)
      · exact up_a z
    have yc : ∀ a, a < 97 → H2 a = H1 a := fun a ha => funext fun j => by rw [y2 a j (by omega) (by omega) (by omega) (by omega) (by omega), hhB, up_ne (by omega), up_ne (by omega), up_ne (by omega), fr _ _ (by omega) (by omega) (by omega) (by omega) (by omega) (by omega)]
    refine ⟨_, H1, H2, Ws, hd, hm, InvX_league i s2 s3 ?_ ?_ ?_ ?_ ?_ ?_ y3 y4 y5 ?_ y6 ?_ y9 ?_ ?_ y7 y8 ?_ y10 ?_⟩
    · intro a j r nc
      unfold coG at nc
      by_cases za : a < 97
      · rw [yc a za, v2 a j (by omega) (by omega) (by omega) (by omega) (by omega) (by omega) (by omega) (by omega) (by omega) (by omega)]
        exact u2.V a j r
      · rw [y2 a j (by omega) (by omega) (by omega) (by omega) (by omega), hhB, s9 a j _ _ _ _ (by omega), s9 a j _ _ _ _ (by omega), s9 a j _ _ _ _ (by omega)]
        have fr2 : h2 a j = H1 a j := by
          apply fr a j
          · intro z; obtain ⟨z1, z2⟩ := z; subst z1; rw [prG_rel z2] at r; cases r
          · intro z; subst z; exact Bool.false_ne_true r
          · intro z; subst z; exact Bool.false_ne_true r
          · intro z; subst z; exact Bool.false_ne_true r
          · omega
          · omega
        rw [fr2, km a (by omega)]
    · rw [yc _ (by omega)]; exact v6
    · rw [y2 _ _ (by omega) (by omega) (by omega) (by omega) (by omega), hhB, up_i (by omega), up_i (by omega), up_s]
    · obtain ⟨l1, l2, l3, l4, l5⟩ := v3
      exact ⟨by rw [yc _ (by omega)]; exact l1, by rw [yc _ (by omega)]; exact l2, by rw [yc _ (by omega)]; exact l3, by rw [yc _ (by omega)]; exact l4, by rw [yc _ (by omega)]; exact l5⟩
    · rw [y2 _ _ (by omega) (by omega) (by omega) (by omega) (by omega), hhB, up_i (by omega), up_s]
    · rw [y2 _ _ (by omega) (by omega) (by omega) (by omega) (by omega), hhB, up_s]
    · rw [yc _ (by omega)]; exact v4
    · rw [yc _ (by omega)]; exact v7
    · rw [yc _ (by omega)]; exact v8
    · rw [yc _ (by omega)]; exact v9
    · rw [yc _ (by omega)]; exact v10
    · rw [yc _ (by omega)]; exact v5
theorem c_text {b : Int} {Ws : Nat → WF} {h : MH} (i : InvX b Ws h) (s : Int) : PrE b b 44 216 [vR 0, .inl s] [vR 97, .inl s, vU, vU] h := by
  by_cases s0 : s = 0
  · subst s0; exact t_league i
  by_cases s1 : s = 1
  · subst s1; exact t_law i
  by_cases s2 : s = 2
  · subst s2; exact t_plan i
  obtain ⟨L, e1, e2, e3, e4, e5⟩ := tp_n i.1.1
  have hd := q44_0 39 s h
  rw [if_pos s0, q44_27, if_pos s1, q44_83, if_pos s2] at hd
  exact (t_fail i hd (fun _ _ _ _ _ _ _ _ _ _ _ _ => rfl) e2 e3 e4 e5 (Or.inl (by omega))).E
