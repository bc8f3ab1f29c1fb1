/-! perform and run -/
theorem pl_n {b : Int} {h : MH} (i : Inv0 b h) {k : Nat} (hk : (k : Int) < h 7 1) : (k < 4 ∧ h 109 k = h 31 k ∧ (1 ≤ h 31 k ∧ h 31 k ≤ 16)) ∧ ∀ j : Nat, (j : Int) < h 31 k → (∀ w : Nat, w < 4 → h 108 (64 * k + 4 * j + w) = plS h k j w) ∧ plOK (plS h k j) := by
  obtain ⟨-, -, -, -, -, -, ⟨p1, p2⟩, -⟩ := (Inv0_iff b h).mp i
  obtain ⟨a1, a2, a3⟩ := p2 k hk
  exact ⟨⟨by omega, a1, a2⟩, fun j hj => a3 j hj⟩
/-- how often a step is done -/
def tmF (p : Nat → Int) : Int := if p 0 = 1 then p 1 else 1
theorem pf_act {b : Int} {Ws : Nat → WF} {h hc hm : MH} (i : InvF Ws h) (hb : b ≤ 800000) (inv : Inv0 b (mix hc hm)) (sc : SF h hc) (sm : SF h hm) {k j : Nat} (hk : k < 4) (hj : j < 16) (hp : plOK (plS h k j)) (ep : ∀ w : Nat, w < 4 → h 108 (64 * k + 4 * j + w) = plS h k j w) (q : acP (h 2 3) (h 2 4) (hc 91) (plS h k j)) :
    (Inv0 (b + 1) (mix (acC hc (spC Ws h (hc 91) (plS h k j)) (spS Ws h (hc 91) (hc 92) (plS h k j))) (acM hm (spV Ws h (hc 91) (hm 110) (plS h k j)))) ∧ resL (mix (acC hc (spC Ws h (hc 91) (plS h k j)) (spS Ws h (hc 91) (hc 92) (plS h k j))) (acM hm (spV Ws h (hc 91) (hm 110) (plS h k j)))) = resL (mix hc hm)) ∧
    (∀ H, SF h H → CS hc H → ∃ H2, (∀ f : MH → Option (Option MV × MH), (cV (Run 38 77 0 [vR 11, vR 12] [] H) fun h4 => cV (Run 38 119 0 [vR 0, vR 12, .inl (k : Int), .inl (j : Int), vU, vU] [] h4) f) = f H2) ∧ SF h H2 ∧ CS (acC hc (spC Ws h (hc 91) (plS h k j)) (spS Ws h (hc 91) (hc 92) (plS h k j))) H2 ∧ Kc H H2) ∧
    (∀ H, SF h H → MS hm H → ∃ H2, (∀ f : MH → Option (Option MV × MH), (cV (Run 39 229 0 [vR 97, vU] [] H) fun h4 => cV (Run 39 259 0 [vR 97, vR 110, .inl (64 * (k : Int) + 4 * (j : Int)), vU, vU, vU] [] h4) f) = f H2) ∧ SF h H2 ∧ MS (acM hm (spV Ws h (hc 91) (hm 110) (plS h k j))) H2 ∧ Km H H2) := by
  obtain ⟨l1, l2, l3, l4, l5, l6, l7⟩ := lgL i.1
  have ef : hc 2 3 = h 2 3 := sc _ _ rfl
  have ek : hc 2 4 = h 2 4 := sc _ _ rfl
  have r : stR (hc 91) (hm 110) := nowR inv
  have o : stOK (hc 2 3) (hc 2 4) b (hc 91) := nowOK (h := mix hc hm) inv
  have hist : (0 ≤ hc 11 0 ∧ hc 11 0 ≤ 40) ∧ (0 ≤ hc 11 2 ∧ hc 11 2 < 40) ∧ hm 97 37 = hc 11 0 := hist_n inv
  obtain ⟨hh1, hh2, hh3⟩ := hist
  rw [ef, ek] at o
  have ss := sp_SS (Ws := Ws) i.1 (sh := hc 92) r o hp q
  refine ⟨act_inv inv (by omega) (by rw [ef, ek]; exact ss), fun H sf cs => ?_, fun H sf ms => ?_⟩
  · have t0 : H 11 2 = hc 11 2 := cs _ _ rfl (by omega)
    have t1 : H 11 0 = hc 11 0 := cs _ _ rfl (by omega)
    have t2 : H 91 = hc 91 := funext fun j => cs _ _ rfl (by omega)
    have t3 : H 92 = hc 92 := funext fun j => cs _ _ rfl (by omega)
    have k1 : keepC H 91 = hc 91 := by rw [keepC_ne (by omega) (by omega) (by omega), t2]
    have k2 : keepC H 92 = hc 92 := by rw [keepC_ne (by omega) (by omega) (by omega), t3]
    have sfG : SF h (keepC H) := fun a j rr => by
      have n5 : a ≠ 11 := fun z => by subst z; exact Bool.false_ne_true rr
      have n6 : ¬ (51 ≤ a ∧ a < 51 + 40) := by
        intro z
        have : a ≤ 40 ∨ 97 ≤ a := by
          unfold relF at rr
          split at rr <;> first | omega | exact absurd rr Bool.false_ne_true
        omega
      rw [keepC_ne (by omega) n5 n6]
      exact sf a j rr
    obtain ⟨G2, g1, g2, g3, g4⟩ := e_stepOnce i sfG 32 k1 o (by omega) hk hj hp q
    rw [k2] at g4
    obtain ⟨a1, a2, a3⟩ := act_C (H2 := G2) sf cs hh2.1 hh2.2 g2 g3 g4
    refine ⟨G2, fun f => ?_, a1, a2, a3⟩
    rw [e_keep _ _ (by omega) (by omega) (by omega) (by omega), cV_some, g1, cV_some]
  · have t1 : H 97 37 = hc 11 0 := by rw [ms _ _ rfl (by omega), hh3]
    have t2 : H 110 = hm 110 := funext fun j => ms _ _ rfl (by omega)
    have k1 : remM H 110 = hm 110 := by rw [remM_ne (by omega) (by omega), t2]
    have sfG : SF h (remM H) := fun a j rr => by
      have n3 : a ≠ 112 := fun z => by subst z; exact Bool.false_ne_true rr
      by_cases z : a = 97
      · subst z
        rw [remM_f (fun z => by subst z; exact Bool.false_ne_true rr)]
        exact sf _ j rr
      · rw [remM_ne z n3]
        exact sf a j rr
    obtain ⟨G2, g1, g2, g3⟩ := m_steps i sfG 2 k1 r o (by omega) (row := 64 * (k : Int) + 4 * (j : Int)) (p := plS h k j) (by omega) (by omega) (fun w hw => by
      rw [sfG _ _ rfl, show (64 * (k : Int) + 4 * (j : Int)).toNat = 64 * k + 4 * j by omega]
      exact ep w hw) hp q
    obtain ⟨a1, a2, a3⟩ := act_M (H2 := G2) sf ms (fun a j n1 n2 n3 => g2 a j (fun z => n1 ⟨z.1, Or.inl z.2⟩) n2 n3) g3
    refine ⟨G2, fun f => ?_, a1, a2, a3⟩
    rw [m_remember _ _ (by omega) (by omega), cV_some, g1, cV_some]
theorem spC_4 {Ws : Nat → WF} {h : MH} {c p : Nat → Int} (z : p 0 = 1) : spC Ws h c p 4 = c 4 + 1 := by
  unfold spC
  rw [if_neg (by omega), if_pos z, hrC_4]
theorem row_n (k j : Nat) (hk : k < 4) (hj : j < 16) : wI (4 * wI (wI (16 * (k : Int)) + (j : Int))) = 64 * (k : Int) + 4 * (j : Int) := by
  rw [wI_ok (x := 16 * (k : Int)) (by omega) (by omega), wI_ok (x := 16 * (k : Int) + (j : Int)) (by omega) (by omega), wI_ok (by omega) (by omega)]
  omega
theorem m_times (d : Nat) {h H : MH} (sf : SF h H) {k j : Nat} (hk : k < 4) (hj : j < 16) (ep : ∀ w : Nat, w < 4 → h 108 (64 * k + 4 * j + w) = plS h k j w) : Run d 258 0 [vR 97, .inl (64 * (k : Int) + 4 * (j : Int))] [] H = some (some (.inl (tmF (plS h k j))), H) := by
  have e0 := ep 0 (by omega)
  have e1 := ep 1 (by omega)
  rw [Nat.add_zero] at e0
  rw [q258_0, if_pos (by omega), show (64 * (k : Int) + 4 * (j : Int)).toNat = 64 * k + 4 * j by omega, sf _ _ rfl, e0]
  unfold tmF
  by_cases z : plS h k j 0 = 1
  · rw [if_neg (fun y => y z), if_pos z, wI_ok (by omega) (by omega), if_pos (by omega), show (64 * (k : Int) + 4 * (j : Int) + 1).toNat = 64 * k + 4 * j + 1 by omega, sf _ _ rfl, e1]
  · rw [if_pos z, if_neg z]
theorem SF_ac {h hc hm : MH} {b : Int} {c2 v2 sh2 : Nat → Int} (inv : Inv0 b (mix hc hm)) (sc : SF h hc) (sm : SF h hm) : SF h (acC hc c2 sh2) ∧ SF h (acM hm v2) := by
  have hh2 : 0 ≤ hc 11 2 ∧ hc 11 2 < 40 := (hist_n inv).2.1
  exact ⟨(act_C (H := hc) (H2 := acC hc c2 sh2) (hc := hc) sc (fun _ _ _ _ => rfl) hh2.1 hh2.2 (fun a _ _ n3 n4 => by unfold acC; rw [rs_n n4, rs_n n3]) rfl rfl).1, (act_M (H := hm) (H2 := acM hm v2) (hm := hm) sm (fun _ _ _ _ => rfl) (fun a j _ _ n3 => by unfold acM; rw [rs_n n3]) rfl).1⟩
theorem pf_step {Ws : Nat → WF} {h : MH} (i : InvF Ws h) {k j : Nat} (hk : k < 4) (hj : j < 16) (hp : plOK (plS h k j)) (ep : ∀ w : Nat, w < 4 → h 108 (64 * k + 4 * j + w) = plS h k j w) :
    ∀ (r t : Nat) (b : Int) (hc hm : MH), (t : Int) + r = tmF (plS h k j) → b + r ≤ 800000 → Inv0 b (mix hc hm) → SF h hc → SF h hm → (1 ≤ r → acP (h 2 3) (h 2 4) (hc 91) (plS h k j)) → (plS h k j 0 = 1 → hc 91 4 + r ≤ 9999) →
    ∃ hc2 hm2, (∀ H, SF h H → CS hc H → ∃ H2, Run 39 117 66 [vR 0, vR 12, .inl (k : Int), .inl 1, .inl (j : Int), .inl (tmF (plS h k j)), .inl (t : Int)] [] H = Run 39 117 3 [vR 0, vR 12, .inl (k : Int), .inl 1, .inl ((j : Int) + 1), .inl (tmF (plS h k j)), .inl (tmF (plS h k j))] [] H2 ∧ SF h H2 ∧ CS hc2 H2 ∧ Kc H H2) ∧
      (∀ H, SF h H → MS hm H → ∃ H2, Run 40 260 65 [vR 97, .inl (k : Int), .inl (j : Int), .inl (64 * (k : Int) + 4 * (j : Int)), .inl (t : Int)] [] H = Run 40 260 24 [vR 97, .inl (k : Int), .inl ((j : Int) + 1), .inl (64 * (k : Int) + 4 * (j : Int)), .inl (tmF (plS h k j))] [] H2 ∧ SF h H2 ∧ MS hm2 H2 ∧ Km H H2) ∧ Inv0 (b + r) (mix hc2 hm2) ∧ resL (mix hc2 hm2) = resL (mix hc hm) ∧ SF h hc2 ∧ SF h hm2 := by
  intro r
  induction r with
  | zero =>
    intro t b hc hm ht hb inv sc sm _ _
    have et : (t : Int) = tmF (plS h k j) := by omega
    refine ⟨hc, hm, fun H sf cs => ⟨H, ?_, sf, cs, fun _ _ => rfl⟩, fun H sf ms => ⟨H, ?_, sf, ms, fun _ _ => rfl⟩, ?_, rfl, sc, sm⟩
    · rw [q117_66_1, if_pos (by omega), wI_ok (by omega) (by omega), et]
    · rw [q260_65, m_times _ sf hk hj ep, cI_some, if_pos (by omega), wI_ok (by omega) (by omega), et]
    · rw [show b + ((0 : Nat) : Int) = b by omega]; exact inv
  | succ r ih =>
    intro t b hc hm ht hb inv sc sm q q4
    have tb : tmF (plS h k j) ≤ 9 := by
      unfold tmF
      have := hp.2.1
      split <;> omega
    obtain ⟨⟨a1, a2⟩, a3, a4⟩ := pf_act i (by omega) inv sc sm hk hj hp ep (q (by omega))
    obtain ⟨s1, s2⟩ := SF_ac (c2 := spC Ws h (hc 91) (plS h k j)) (v2 := spV Ws h (hc 91) (hm 110) (plS h k j)) (sh2 := spS Ws h (hc 91) (hc 92) (plS h k j)) inv sc sm
    have en : acC hc (spC Ws h (hc 91) (plS h k j)) (spS Ws h (hc 91) (hc 92) (plS h k j)) 91 = spC Ws h (hc 91) (plS h k j) := by unfold acC; rw [rs_n (by omega), rs_s]
    obtain ⟨hc2, hm2, u1, u2, u3, u4, u5, u6⟩ := ih (t + 1) (b + 1) _ _ (by omega) (by omega) a1 s1 s2 (fun hr => by
      have z1 : plS h k j 0 = 1 := by
        by_cases z : plS h k j 0 = 1
        · exact z
        · exfalso; unfold tmF at ht; rw [if_neg z] at ht; omega
      rw [en]
      refine ⟨fun z => by omega, fun _ => ?_, fun z => by omega⟩
      rw [spC_4 z1]
      have := q4 z1
      omega) (fun z1 => by
      rw [en, spC_4 z1]
      have := q4 z1
      omega)
    refine ⟨hc2, hm2, fun H sf cs => ?_, fun H sf ms => ?_, ?_, by rw [u4, a2], u5, u6⟩
    · obtain ⟨H2, w1, w2, w3, w4⟩ := a3 H sf cs
      obtain ⟨H3, w5, w6, w7, w8⟩ := u1 H2 w2 w3
      refine ⟨H3, ?_, w6, w7, w4.tr w8⟩
      rw [← w5, q117_66_1, if_neg (by omega), if_neg (by omega), wI_ok (by omega) (by omega), show (t : Int) + 1 = ((t + 1 : Nat) : Int) by omega]
      exact w1 _
    · obtain ⟨H2, w1, w2, w3, w4⟩ := a4 H sf ms
      obtain ⟨H3, w5, w6, w7, w8⟩ := u2 H2 w2 w3
      refine ⟨H3, ?_, w6, w7, w4.tr w8⟩
      rw [← w5, q260_65, m_times _ sf hk hj ep, cI_some, if_neg (by omega), wI_ok (by omega) (by omega), show (t : Int) + 1 = ((t + 1 : Nat) : Int) by omega]
      exact w1 _
    · rw [show b + ((r + 1 : Nat) : Int) = b + 1 + (r : Int) by omega]; exact u3
theorem c_perform {b : Int} {Ws : Nat → WF} {h : MH} (i : InvX b Ws h) (hb : b ≤ 700000) (x : Int) : PrX b (b + 144) Ws 120 260 [vR 0, .inl x] [vR 97, .inl x, vU, vU, vU] h := by
  obtain ⟨l1, l2, l3, l4, l5, l6, l7⟩ := lg_n i.1.1
  obtain ⟨-, -, -, -, -, -, ⟨⟨pn1, pn2, pn3⟩, -⟩, -⟩ := (Inv0_iff b h).mp i.1.1
  by_cases q : 0 < h 2 3 ∧ (0 ≤ x ∧ x < h 7 1)
  · obtain ⟨qf, qx⟩ := q
    obtain ⟨k, rfl⟩ := Int.eq_ofNat_of_zero_le qx.1
    obtain ⟨⟨hk, ps1, ps2⟩, ps3⟩ := pl_n i.1.1 qx.2
    have key : ∀ (r j : Nat) (hc hm : MH) (b2 : Int), (j : Int) + r = h 31 k → b2 + 9 * r ≤ b + 144 → b ≤ b2 → Inv0 b2 (mix hc hm) → resL (mix hc hm) = resL h → SF h hc → SF h hm →
        ∃ v hc2 hm2, (∀ (H : MH) (z3 z4 : MV), cat z3 = 1 → cat z4 = 1 → SF h H → CS hc H → ∃ H2, Run 39 117 3 [vR 0, vR 12, .inl (k : Int), .inl 1, .inl (j : Int), z3, z4] [] H = some (some (.inl v), H2) ∧ CS hc2 H2 ∧ SF h H2 ∧ Kc H H2) ∧ (∀ (H : MH) (z3 z4 : MV), cat z3 = 1 → cat z4 = 1 → SF h H → MS hm H → ∃ H2, Run 40 260 24 [vR 97, .inl (k : Int), .inl (j : Int), z3, z4] [] H = some (some (.inl v), H2) ∧ MS hm2 H2 ∧ Km H H2) ∧ Inv0 (b + 144) (mix hc2 hm2) ∧ resL (mix hc2 hm2) = resL h := by
      intro r
      induction r with
      | zero =>
        intro j hc hm b2 hj hb2 hb3 inv rl sc sm
        refine ⟨h 31 k, hc, hm, fun H z3 z4 c3 c4 sf cs => ⟨H, ?_, cs, sf, fun _ _ => rfl⟩, fun H z3 z4 c3 c4 sf ms => ⟨H, ?_, ms, fun _ _ => rfl⟩, Inv_mono (by omega) inv, rl⟩
        · rw [q117_3_1 (hz3 := c3) (hz4 := c4), if_pos (by omega), show ((k : Nat) : Int).toNat = k by omega, sf _ _ rfl, if_pos (by omega), if_pos (by omega)]
        · rw [q260_24 (hz2 := c3) (hz3 := c4), if_pos (by omega), show ((k : Nat) : Int).toNat = k by omega, sf _ _ rfl, ps1, if_pos (by omega), show (j : Int) = h 31 k by omega]
      | succ r ih =>
        intro j hc hm b2 hj hb2 hb3 inv rl sc sm
        obtain ⟨ep, hp⟩ := ps3 j (by omega)
        have ef : hc 2 3 = h 2 3 := sc _ _ rfl
        have ek : hc 2 4 = h 2 4 := sc _ _ rfl
        have rr : stR (hc 91) (hm 110) := nowR inv
        have o : stOK (hc 2 3) (hc 2 4) b2 (hc 91) := nowOK (h := mix hc hm) inv
        rw [ef, ek] at o
        have canC : ∀ H, SF h H → CS hc H → Run 38 118 0 [vR 0, vR 12, .inl (k : Int), .inl (j : Int), vU, vU] [] H = some (some (.inl (bi (stP (h 2 3) (h 2 4) (hc 91) (plS h k j)))), H) := fun H sf cs => e_canStep i.1.F sf 36 (funext fun j => cs _ _ rfl (by omega)) o hk (by omega) hp
        have canM : ∀ H, SF h H → MS hm H → Run 39 257 0 [vR 97, vR 110, .inl (64 * (k : Int) + 4 * (j : Int)), vU, vU] [] H = some (some (.inl (bi (stP (h 2 3) (h 2 4) (hc 91) (plS h k j)))), H) := fun H sf ms => m_canStep i.1.F sf 36 (funext fun j => ms _ _ rfl (by omega)) rr o qf (row := 64 * (k : Int) + 4 * (j : Int)) (p := plS h k j) (by omega) (by omega) (fun w hw => by
          rw [sf _ _ rfl, show (64 * (k : Int) + 4 * (j : Int)).toNat = 64 * k + 4 * j by omega]
          exact ep w hw) hp
        by_cases qc : stP (h 2 3) (h 2 4) (hc 91) (plS h k j)
        · have t0 : 1 ≤ tmF (plS h k j) ∧ tmF (plS h k j) ≤ 9 := by
            unfold tmF
            have := hp.2.1
            rcases qc with z | z | z | z <;> split <;> omega
          obtain ⟨hc1, hm1, v1, v2, v3, v4, v5, v6⟩ := pf_step i.1.F hk (by omega) hp ep (tmF (plS h k j)).toNat 0 b2 hc hm (by omega) (by omega) inv sc sm (fun _ => st_ac qc) (fun z1 => by
            have : tmF (plS h k j) = plS h k j 1 := by unfold tmF; rw [if_pos z1]
            rcases qc with z | z | z | z
            · omega
            · omega
            · omega
            · omega)
          obtain ⟨v, hc2, hm2, u1, u2, u3, u4⟩ := ih (j + 1) hc1 hm1 (b2 + ((tmF (plS h k j)).toNat : Int)) (by omega) (by omega) (by omega) v3 (by rw [v4, rl]) v5 v6
          refine ⟨v, hc2, hm2, fun H z3 z4 c3 c4 sf cs => ?_, fun H z3 z4 c3 c4 sf ms => ?_, u3, u4⟩
          · obtain ⟨H1, w1, w2, w3, w4⟩ := v1 H sf cs
            obtain ⟨H2, w5, w6, w7, w8⟩ := u1 H1 (.inl (tmF (plS h k j))) (.inl (tmF (plS h k j))) rfl rfl w2 w3
            refine ⟨H2, ?_, w6, w7, w4.tr w8⟩
            have a0 := e_part 38 sf hk (i := j) (by omega) (w := 0) (by omega)
            have a1 := e_part 38 sf hk (i := j) (by omega) (w := 1) (by omega)
            rw [q117_3_1 (hz3 := c3) (hz4 := c4), if_pos (by omega), show ((k : Nat) : Int).toNat = k by omega, sf _ _ rfl, if_neg (by omega), canC H sf cs, cI_some, bi_t qc, if_pos (by omega)]
            refine (congrArg (fun t => cI t _) a0).trans ?_
            rw [cI_some]
            have fin : Run 39 117 66 [vR 0, vR 12, .inl (k : Int), .inl 1, .inl (j : Int), .inl (tmF (plS h k j)), .inl 0] [] H = some (some (.inl v), H2) := by
              rw [← w5, show ((j + 1 : Nat) : Int) = (j : Int) + 1 by omega]
              exact w1
            by_cases z1 : plS h k j 0 = 1
            · rw [if_neg (fun y => y z1)]
              refine (congrArg (fun t => cI t _) a1).trans ?_
              rw [cI_some]
              have : tmF (plS h k j) = plS h k j 1 := by unfold tmF; rw [if_pos z1]
              rw [this] at fin
              exact fin
            · rw [if_pos z1]
              have : tmF (plS h k j) = 1 := by unfold tmF; rw [if_neg z1]
              rw [this] at fin
              exact fin
          · obtain ⟨H1, w1, w2, w3, w4⟩ := v2 H sf ms
            obtain ⟨H2, w5, w6, w7⟩ := u2 H1 (.inl (64 * (k : Int) + 4 * (j : Int))) (.inl (tmF (plS h k j))) rfl rfl w2 w3
            refine ⟨H2, ?_, w6, w4.tr w7⟩
            rw [← w5, q260_24 (hz2 := c3) (hz3 := c4), if_pos (by omega), show ((k : Nat) : Int).toNat = k by omega, sf _ _ rfl, ps1, if_neg (by omega), row_n k j hk (by omega), canM H sf ms, cI_some, bi_t qc, if_neg (by omega), show ((j + 1 : Nat) : Int) = (j : Int) + 1 by omega]
            exact w1
        · refine ⟨(j : Int), hc, hm, fun H z3 z4 c3 c4 sf cs => ⟨H, ?_, cs, sf, fun _ _ => rfl⟩, fun H z3 z4 c3 c4 sf ms => ⟨H, ?_, ms, fun _ _ => rfl⟩, Inv_mono (by omega) inv, rl⟩
          · rw [q117_3_1 (hz3 := c3) (hz4 := c4), if_pos (by omega), show ((k : Nat) : Int).toNat = k by omega, sf _ _ rfl, if_neg (by omega), canC H sf cs, cI_some, bi_f qc, if_neg (by omega)]
          · rw [q260_24 (hz2 := c3) (hz3 := c4), if_pos (by omega), show ((k : Nat) : Int).toNat = k by omega, sf _ _ rfl, ps1, if_neg (by omega), row_n k j hk (by omega), canM H sf ms, cI_some, bi_f qc, if_pos rfl]
    obtain ⟨v, hc2, hm2, u1, u2, u3, u4⟩ := key (h 31 k).toNat 0 h h b (by omega) (by omega) (by omega) (by rw [mix_self]; exact i.1.1) (by rw [mix_self]) (SF.rf h) (SF.rf h)
    obtain ⟨H1, w1, w2, w2', w3⟩ := u1 h vU vU rfl rfl (SF.rf h) (fun _ _ _ _ => rfl)
    have sfG : SF h (up H1 97 0 0) := fun a j rr => by
      by_cases za : a = 97
      · subst za
        rw [up_i (fun z => by subst z; exact Bool.false_ne_true rr)]
        exact w2' _ j rr
      · rw [up_a za]; exact w2' a j rr
    have msG : MS h (up H1 97 0 0) := fun a j rr ha => by
      by_cases za : a = 97
      · subst za
        rw [up_i (fun z => by subst z; exact Bool.false_ne_true rr), w3 _ (by omega)]
      · rw [up_a za, w3 a ha]
    obtain ⟨H2, t1, t2, t3⟩ := u2 (up H1 97 0 0) vU vU rfl rfl sfG msG
    refine PrX_S i (hc := hc2) (hm := hm2) (H1 := H1) (H2 := H2) (v := v) ?_ w2 ?_ t2 (Km.tr (fun a ha => by rw [up_ne (by omega)]) t3) u3 u4
    · rw [q120_0, e_isTold, cI_some, bi_t qf, if_neg (by omega), e_has, cI_some, bi_t qx, if_pos (by omega), q117_0_1]
      refine (congrArg (fun t => cI t _) w1).trans ?_
      rw [cI_some]
    · have m0 : up H1 97 0 0 97 26 = h 2 3 := by rw [up_i (by omega), w3 _ (by omega), l1]
      have m1 : up H1 97 0 0 97 30 = h 7 1 := by rw [up_i (by omega), w3 _ (by omega), pn1]
      rw [q260_0, m_isPlan, cI_some, m1, bi_t qx, if_neg (by omega), m0, if_pos (by omega)]
      exact t1
  · refine Pr_X i (Pr_mono (by omega) (Pr_no i.1.1 (v := -1) ?_ ?_))
    · rw [q120_0, e_isTold, cI_some]
      by_cases q1 : 0 < h 2 3
      · rw [bi_t q1, if_neg (by omega), e_has, cI_some, bi_f (fun z => q ⟨q1, z⟩), if_neg (by omega)]
      · rw [bi_f q1, if_pos rfl]
    · rw [q260_0, m_isPlan, cI_some, up_i (by omega), pn1]
      by_cases q1 : 0 ≤ x ∧ x < h 7 1
      · rw [bi_t q1, if_neg (by omega), up_i (by omega), l1, if_neg (by omega)]
      · rw [bi_f q1, if_pos rfl]
