/-! the class' routes -/
def ETr (h H : MH) : Prop := ∀ a, a ≠ 23 → a ≠ 30 → a ≠ 38 → a ≠ 39 → a ≠ 40 → a ≠ 41 → a ≠ 42 → H a = h a
theorem ETr.dat {Ws : Nat → WF} {h H : MH} (e : ETr h H) : H 2 = h 2 ∧ amH Ws H = amH Ws h := by
  refine ⟨e _ (by omega) (by omega) (by omega) (by omega) (by omega) (by omega) (by omega), ?_⟩
  funext c f to
  unfold amH
  rw [e 6 (by omega) (by omega) (by omega) (by omega) (by omega) (by omega) (by omega), e 17 (by omega) (by omega) (by omega) (by omega) (by omega) (by omega) (by omega), e 18 (by omega) (by omega) (by omega) (by omega) (by omega) (by omega) (by omega), e 2 (by omega) (by omega) (by omega) (by omega) (by omega) (by omega) (by omega), e 91 (by omega) (by omega) (by omega) (by omega) (by omega) (by omega) (by omega)]
def amN (Ws : Nat → WF) (h : MH) (c : Int) (f t : Nat) : Int := amH Ws h c f t
theorem e_offer (d : Nat) (H : MH) {t : Nat} {m c r : Int} (ht : t < 8) : Run d 129 0 [vR 9, .inl (t : Int), .inl m, .inl c, .inl r, vU] [] H = some (none, if H 40 t = -1 ∨ c < H 41 t ∨ (c = H 41 t ∧ r < H 42 t) then up (up (up H 40 t m) 41 t c) 42 t r else H) := by
  have e1 : Run d 129 46 [vR 9, .inl (t : Int), .inl m, .inl c, .inl r, vU] [.inl 1] H = some (none, up (up (up H 40 t m) 41 t c) 42 t r) := by
    rw [q129_46 (hz4 := rfl), if_neg (by omega), if_pos (by omega), if_pos (by omega), if_pos (by omega), show ((t : Nat) : Int).toNat = t by omega]
  have e0 : Run d 129 46 [vR 9, .inl (t : Int), .inl m, .inl c, .inl r, vU] [.inl 0] H = some (none, H) := by
    rw [q129_46 (hz4 := rfl), if_pos rfl]
  rw [q129_0, if_pos (by omega), show ((t : Nat) : Int).toNat = t by omega]
  by_cases q1 : H 40 t = -1
  · rw [if_pos q1, e1, if_pos (Or.inl q1)]
  · rw [if_neg q1, if_pos (by omega)]
    by_cases q2 : c < H 41 t
    · rw [if_pos q2, e1, if_pos (Or.inr (Or.inl q2))]
    · rw [if_neg q2, if_pos (by omega)]
      by_cases q3 : c = H 41 t
      · rw [if_neg (fun z => z q3), if_pos (by omega)]
        by_cases q4 : H 42 t ≤ r
        · rw [if_pos q4, e0, if_neg (by omega)]
        · rw [if_neg q4, e1, if_pos (by omega)]
      · rw [if_pos q3, e0, if_neg (by omega)]
theorem e_trace {b : Int} {Ws : Nat → WF} {h : MH} (i : InvX b Ws h) (d : Nat) {c : Int} {s n : Nat} (hc0 : 0 ≤ c) (hc1 : c < h 2 4) (hn : h 2 3 = n) (hs : s < n) :
    ∃ H, Run (d + 6) 128 0 [vR 9, vR 12, .inl c, .inl (s : Int), vU, vU, vU, vU] [] h = some (none, H) ∧ ETr h H ∧ InvX b Ws H ∧ ∀ t, t < n → lvI (amN Ws h c) n s (n - 1) t (H 40) (H 41) (H 42) := by
  obtain ⟨l1, l2, l3, l4, l5, l6, l7⟩ := lg_n i.1.1
  have n8 : n ≤ 8 := by omega
  have haa : ∀ f, amN Ws h c f f = -1 := fun f => am_self _ _ _ _ _ _ _ _ _ _
  have hab : ∀ f t, amN Ws h c f t = -1 ∨ (1 ≤ amN Ws h c f t ∧ amN Ws h c f t ≤ 20) := fun f t => amH_b Ws h c f t
  -- the rows are bounded
  have wb : ∀ (k f : Nat) (c2 r2 : Int), k ≤ 7 → Wk (amN Ws h c) n s k f c2 r2 → (0 ≤ c2 ∧ c2 ≤ 20 * k) ∧ 0 ≤ r2 ∧ r2 < 10 ^ k := by
    intro k
    induction k with
    | zero =>
      intro f c2 r2 _ w
      obtain ⟨-, rfl, rfl⟩ := w
      simp
    | succ k ih =>
      intro f c2 r2 hk w
      obtain ⟨h1, g, c0, r0, w0, a, e1, e2⟩ := w
      obtain ⟨b1, b2⟩ := ih g c0 r0 (by omega) w0
      have := hab g f
      have e3 : (10 : Int) ^ (k + 1) = 10 * 10 ^ k := by rw [Int.pow_succ]; omega
      rw [e3]
      omega
  have p7 : ∀ k : Nat, k ≤ 7 → (10 : Int) ^ k ≤ 10000000 := by
    intro k hk
    have : (10 : Int) ^ k ≤ 10 ^ 7 := by
      have := Nat.pow_le_pow_right (n := 10) (by omega) hk
      exact_mod_cast this
    omega
  -- one fort's offers
  have by_ : ∀ (r bb m t : Nat) (H : MH) (z1 z5 : MV), cat z1 = 1 → cat z5 = 1 → bb + r = n → t < n → 1 ≤ m → m < n → ETr h H → InvX b Ws H → (∀ f, f < n → f ≠ t → lvI (amN Ws h c) n s (m - 1) f (H 40) (H 41) (H 42) ∨ lvI (amN Ws h c) n s m f (H 40) (H 41) (H 42)) → inQ (amN Ws h c) n s m t bb (H 40) (H 41) (H 42) →
      ∃ H2 z4' z5', cat z4' = 1 ∧ cat z5' = 1 ∧ Run (d + 6) 128 62 [vR 9, vR 12, .inl c, z1, .inl (m : Int), .inl (t : Int), .inl (bb : Int), z5] [] H = Run (d + 6) 128 47 [vR 9, vR 12, .inl c, z1, .inl (m : Int), .inl ((t : Int) + 1), z4', z5'] [] H2 ∧ ETr h H2 ∧ InvX b Ws H2 ∧ (∀ f, f ≠ t → H2 40 f = H 40 f ∧ H2 41 f = H 41 f ∧ H2 42 f = H 42 f) ∧ inQ (amN Ws h c) n s m t n (H2 40) (H2 41) (H2 42) := by
    intro r
    induction r with
    | zero =>
      intro bb m t H z1 z5 c1 c5 hb ht hm1 hm2 eH iH lv q
      have : bb = n := by omega
      subst this
      refine ⟨H, .inl (bb : Int), z5, rfl, c5, ?_, eH, iH, fun f _ => ⟨rfl, rfl, rfl⟩, q⟩
      rw [q128_62 (hz1 := c1) (hz5 := c5), if_pos (by rw [(eH.dat (Ws := Ws)).1, hn]; omega), wI_ok (by omega) (by omega)]
    | succ r ih =>
      intro bb m t H z1 z5 c1 c5 hb ht hm1 hm2 eH iH lv q
      have e1 := (eH.dat (Ws := Ws)).1
      have e2 := (eH.dat (Ws := Ws)).2
      have hpt : H 40 t = -1 ∨ H 40 t = m := by
        rcases q.2 with ⟨z, -⟩ | ⟨z, -⟩
        · exact Or.inl z
        · exact Or.inr z
      have st97 : Run (d + 6) 128 62 [vR 9, vR 12, .inl c, z1, .inl (m : Int), .inl (t : Int), .inl (bb : Int), z5] [] H = Run (d + 6) 128 97 [vR 9, vR 12, .inl c, z1, .inl (m : Int), .inl (t : Int), .inl (bb : Int), z5] [] H := by
        rw [q128_62 (hz1 := c1) (hz5 := c5), if_neg (by rw [e1, hn]; omega), if_pos (by omega), show ((t : Nat) : Int).toNat = t by omega]
        rcases hpt with z | z
        · rw [if_pos z]
        · rw [if_neg (by omega), if_pos (by omega), if_neg (fun y => y z)]
      by_cases q1 : H 40 bb = (m : Int) - 1
      · have hbt : bb ≠ t := fun z => by rw [z] at q1; omega
        have bbst : Bst (amN Ws h c) n s bb (m - 1) (H 41 bb) (H 42 bb) := by
          rcases lv bb (by omega) hbt with (⟨z, -⟩ | ⟨k, k1, k2, k3⟩) | (⟨z, -⟩ | ⟨k, k1, k2, k3⟩)
          · omega
          · rw [show m - 1 = k by omega]; exact k3
          · omega
          · rw [show m - 1 = k by omega]; exact k3
        obtain ⟨bd1, bd2⟩ := wb (m - 1) bb _ _ (by omega) bbst.1
        have pm := p7 (m - 1) (by omega)
        obtain ⟨H1, r1, r2, r3⟩ := e_leastPowder iH d (c := c) (f := (bb : Int)) (to := (t : Int)) hc0 (by rw [e1]; exact hc1) (by omega) (by rw [e1, hn]; omega) (by omega) (by omega)
        rw [e2] at r1
        have r1' : Run (d + 5) 125 0 [vR 8, vR 12, .inl c, .inl (bb : Int), .inl (t : Int), vU, vU] [] H = some (some (.inl (amN Ws h c bb t)), H1) := r1
        have eH1 : ETr h H1 := fun a a1 a2 a3 a4 a5 a6 a7 => by rw [r2 a a1 a2 a3 a4, eH a a1 a2 a3 a4 a5 a6 a7]
        have f0 : H1 40 = H 40 := r2 _ (by omega) (by omega) (by omega) (by omega)
        have f1 : H1 41 = H 41 := r2 _ (by omega) (by omega) (by omega) (by omega)
        have f2 : H1 42 = H 42 := r2 _ (by omega) (by omega) (by omega) (by omega)
        have st128 : Run (d + 6) 128 97 [vR 9, vR 12, .inl c, z1, .inl (m : Int), .inl (t : Int), .inl (bb : Int), z5] [] H = Run (d + 6) 128 128 [vR 9, vR 12, .inl c, z1, .inl (m : Int), .inl (t : Int), .inl (bb : Int), z5] [.inl (amN Ws h c bb t)] H1 := by
          rw [q128_97 (hz1 := c1) (hz5 := c5), if_pos (by omega), show ((bb : Nat) : Int).toNat = bb by omega, wI_ok (by omega) (by omega), if_neg (fun y => y q1), r1', cI_some]
        by_cases qa : amN Ws h c bb t = -1
        · obtain ⟨H2, z4', z5', d4, d5, u1, u2, u3, u4, u5⟩ := ih (bb + 1) m t H1 z1 (.inl (amN Ws h c bb t)) c1 rfl (by omega) ht hm1 hm2 eH1 r3 (by rw [f0, f1, f2]; exact lv) (by
            rw [f0, f1, f2]
            refine ⟨q.1, ?_⟩
            rcases q.2 with ⟨z, z2⟩ | ⟨z, ⟨g, g1, g2⟩, z2⟩
            · refine Or.inl ⟨z, fun f hf hpf => ?_⟩
              by_cases zf : f = bb
              · rw [zf]; exact qa
              · exact z2 f (by omega) hpf
            · refine Or.inr ⟨z, ⟨g, by omega, g2⟩, fun f hf hpf ha => ?_⟩
              by_cases zf : f = bb
              · exact absurd (by rw [zf]; exact qa) ha
              · exact z2 f (by omega) hpf ha)
          refine ⟨H2, z4', z5', d4, d5, ?_, u2, u3, fun f hf => by rw [← f0, ← f1, ← f2]; exact u4 f hf, u5⟩
          rw [st97, st128, q128_128 (hz1 := c1) (hz5 := c5), if_pos qa, wI_ok (by omega) (by omega), ← u1]
          rfl
        · have ab := hab bb t
          have of := e_offer (d + 5) H1 (t := t) (m := (m : Int)) (c := H 41 bb + amN Ws h c bb t) (r := 10 * H 42 bb + t) (by omega)
          rw [f0, f1, f2] at of
          have hX : ∃ H2, H2 = (if H 40 t = -1 ∨ H 41 bb + amN Ws h c bb t < H 41 t ∨ (H 41 bb + amN Ws h c bb t = H 41 t ∧ 10 * H 42 bb + t < H 42 t) then up (up (up H1 40 t m) 41 t (H 41 bb + amN Ws h c bb t)) 42 t (10 * H 42 bb + t) else H1) := ⟨_, rfl⟩
          obtain ⟨HX, hX⟩ := hX
          rw [← hX] at of
          have eX : ETr h HX := by
            rw [hX]
            split
            · exact fun a a1 a2 a3 a4 a5 a6 a7 => by rw [up_ne a7, up_ne a6, up_ne a5]; exact eH1 a a1 a2 a3 a4 a5 a6 a7
            · exact eH1
          have iX : InvX b Ws HX := by
            rw [hX]
            split
            · exact (((Eqv.up rfl).tr (Eqv.up rfl)).tr (Eqv.up rfl)).X r3
            · exact r3
          have oX : ∀ f, f ≠ t → HX 40 f = H 40 f ∧ HX 41 f = H 41 f ∧ HX 42 f = H 42 f := by
            intro f hf
            rw [← f0, ← f1, ← f2, hX]
            split
            · exact ⟨by rw [up_a (by omega), up_a (by omega), up_i hf], by rw [up_a (by omega), up_i hf, up_a (by omega)], by rw [up_i hf, up_a (by omega), up_a (by omega)]⟩
            · exact ⟨rfl, rfl, rfl⟩
          have tX : (HX 40 t = m) ∧ ((HX 41 t = H 41 bb + amN Ws h c bb t ∧ HX 42 t = 10 * H 42 bb + t ∧ (H 40 t = -1 ∨ lx (HX 41 t) (HX 42 t) (H 41 t) (H 42 t))) ∨ (H 40 t = m ∧ HX 41 t = H 41 t ∧ HX 42 t = H 42 t ∧ lx (H 41 t) (H 42 t) (H 41 bb + amN Ws h c bb t) (10 * H 42 bb + t))) := by
            rw [hX]
            unfold lx
            split
            · rename_i z
              refine ⟨by rw [up_a (by omega), up_a (by omega), up_s], Or.inl ⟨by rw [up_a (by omega), up_s], by rw [up_s], ?_⟩⟩
              rw [up_a (by omega), up_s, up_s]
              omega
            · rename_i z
              rw [f0, f1, f2]
              have : H 40 t = m := by omega
              exact ⟨this, Or.inr ⟨this, rfl, rfl, by omega⟩⟩
          have lvX : ∀ f, f < n → f ≠ t → lvI (amN Ws h c) n s (m - 1) f (HX 40) (HX 41) (HX 42) ∨ lvI (amN Ws h c) n s m f (HX 40) (HX 41) (HX 42) := by
            intro f hf hne
            obtain ⟨o1, o2, o3⟩ := oX f hne
            unfold lvI
            rw [o1, o2, o3]
            exact lv f hf hne
          obtain ⟨H2, z4', z5', d4, d5, u1, u2, u3, u4, u5⟩ := ih (bb + 1) m t HX z1 (.inl (amN Ws h c bb t)) c1 rfl (by omega) ht hm1 hm2 eX iX lvX (by
            have nb : ∀ f, f < bb + 1 → HX 40 f = (m : Int) - 1 → f ≠ t := fun f _ z y => by rw [y, tX.1] at z; omega
            refine ⟨q.1, Or.inr ⟨tX.1, ?_, fun f hf hpf ha => ?_⟩⟩
            · rcases tX.2 with ⟨t1, t2, -⟩ | ⟨t0, t1, t2, -⟩
              · exact ⟨bb, by omega, by rw [(oX bb hbt).1]; exact q1, qa, by rw [t1, (oX bb hbt).2.1], by rw [t2, (oX bb hbt).2.2]⟩
              · rcases q.2 with ⟨z, -⟩ | ⟨z, ⟨g, g1, g2, g3, g4, g5⟩, -⟩
                · omega
                · have hg : g ≠ t := fun y => by rw [y] at g2; omega
                  exact ⟨g, by omega, by rw [(oX g hg).1]; exact g2, g3, by rw [t1, (oX g hg).2.1]; exact g4, by rw [t2, (oX g hg).2.2]; exact g5⟩
            · have hft := nb f hf hpf
              rw [(oX f hft).1] at hpf
              rw [(oX f hft).2.1, (oX f hft).2.2]
              by_cases zf : f = bb
              · subst zf
                rcases tX.2 with ⟨t1, t2, -⟩ | ⟨t0, t1, t2, t3⟩
                · rw [t1, t2]; exact Or.inr ⟨rfl, Int.le_refl _⟩
                · rw [t1, t2]; exact t3
              · rcases q.2 with ⟨z, z2⟩ | ⟨z, -, z2⟩
                · exact absurd (z2 f (by omega) hpf) ha
                · have l1 := z2 f (by omega) hpf ha
                  rcases tX.2 with ⟨t1, t2, t3⟩ | ⟨t0, t1, t2, t3⟩
                  · rcases t3 with t3 | t3
                    · omega
                    · unfold lx at l1 t3 ⊢
                      omega
                  · rw [t1, t2]; exact l1)
          refine ⟨H2, z4', z5', d4, d5, ?_, u2, u3, fun f hf => ?_, u5⟩
          · rw [st97, st128, q128_128 (hz1 := c1) (hz5 := c5), if_neg qa, if_pos (by omega), if_pos (by omega), show ((bb : Nat) : Int).toNat = bb by omega, f1, f2, wI_ok (x := H 41 bb + amN Ws h c bb t) (by omega) (by omega), wI_ok (x := H 42 bb * 10) (by omega) (by omega), wI_ok (x := H 42 bb * 10 + t) (by omega) (by omega), show H 42 bb * 10 + (t : Int) = 10 * H 42 bb + t by omega, of, cV_some, wI_ok (by omega) (by omega), ← u1]
            rfl
          · have := u4 f hf
            have := oX f hf
            omega
      · obtain ⟨H2, z4', z5', d4, d5, u1, u2, u3, u4, u5⟩ := ih (bb + 1) m t H z1 (.inl (-1)) c1 rfl (by omega) ht hm1 hm2 eH iH lv (by
          refine ⟨q.1, ?_⟩
          rcases q.2 with ⟨z, z2⟩ | ⟨z, ⟨g, g1, g2⟩, z2⟩
          · refine Or.inl ⟨z, fun f hf hpf => ?_⟩
            by_cases zf : f = bb
            · rw [zf] at hpf; exact absurd hpf q1
            · exact z2 f (by omega) hpf
          · refine Or.inr ⟨z, ⟨g, by omega, g2⟩, fun f hf hpf ha => ?_⟩
            by_cases zf : f = bb
            · rw [zf] at hpf; exact absurd hpf q1
            · exact z2 f (by omega) hpf ha)
        refine ⟨H2, z4', z5', d4, d5, ?_, u2, u3, u4, u5⟩
        rw [st97, q128_97 (hz1 := c1) (hz5 := c5), if_pos (by omega), show ((bb : Nat) : Int).toNat = bb by omega, wI_ok (x := (m : Int) - 1) (by omega) (by omega), if_pos q1, q128_128 (hz1 := c1) (hz5 := c5), if_pos rfl, wI_ok (by omega) (by omega), ← u1]
        rfl
  -- one level
  have lev : ∀ (r t m : Nat) (H : MH) (z1 z4 z5 : MV), cat z1 = 1 → cat z4 = 1 → cat z5 = 1 → t + r = n → 1 ≤ m → m < n → ETr h H → InvX b Ws H → (∀ f, f < n → (f < t → lvI (amN Ws h c) n s m f (H 40) (H 41) (H 42)) ∧ (t ≤ f → lvI (amN Ws h c) n s (m - 1) f (H 40) (H 41) (H 42))) →
      ∃ H2 z3' z4' z5', cat z3' = 1 ∧ cat z4' = 1 ∧ cat z5' = 1 ∧ Run (d + 6) 128 47 [vR 9, vR 12, .inl c, z1, .inl (m : Int), .inl (t : Int), z4, z5] [] H = Run (d + 6) 128 32 [vR 9, vR 12, .inl c, z1, .inl ((m : Int) + 1), z3', z4', z5'] [] H2 ∧ ETr h H2 ∧ InvX b Ws H2 ∧ ∀ f, f < n → lvI (amN Ws h c) n s m f (H2 40) (H2 41) (H2 42) := by
    intro r
    induction r with
    | zero =>
      intro t m H z1 z4 z5 c1 c4 c5 ht hm1 hm2 eH iH lv
      refine ⟨H, .inl (t : Int), z4, z5, rfl, c4, c5, ?_, eH, iH, fun f hf => (lv f hf).1 (by omega)⟩
      rw [q128_47 (hz1 := c1) (hz4 := c4) (hz5 := c5), if_pos (by rw [(eH.dat (Ws := Ws)).1, hn]; omega), wI_ok (by omega) (by omega)]
    | succ r ih =>
      intro t m H z1 z4 z5 c1 c4 c5 ht hm1 hm2 eH iH lv
      have e1 := (eH.dat (Ws := Ws)).1
      have st : Run (d + 6) 128 47 [vR 9, vR 12, .inl c, z1, .inl (m : Int), .inl (t : Int), z4, z5] [] H = Run (d + 6) 128 62 [vR 9, vR 12, .inl c, z1, .inl (m : Int), .inl (t : Int), .inl 0, z5] [] H := by
        rw [q128_47 (hz1 := c1) (hz4 := c4) (hz5 := c5), if_neg (by rw [e1, hn]; omega)]
      have lvt := (lv t (by omega)).2 (Nat.le_refl t)
      rcases lvt with ⟨y1, y2⟩ | ⟨k, k1, k2, k3⟩
      · obtain ⟨H1, z4', z5', d4, d5, u1, u2, u3, u4, u5⟩ := by_ n 0 m t H z1 z5 c1 c5 (by omega) (by omega) hm1 hm2 eH iH (fun f hf hne => by
          rcases Nat.lt_or_ge f t with z | z
          · exact Or.inr ((lv f hf).1 z)
          · exact Or.inl ((lv f hf).2 z)) ⟨y2, Or.inl ⟨y1, fun f hf => by omega⟩⟩
        have keep : ∀ f m', f ≠ t → lvI (amN Ws h c) n s m' f (H 40) (H 41) (H 42) → lvI (amN Ws h c) n s m' f (H1 40) (H1 41) (H1 42) := by
          intro f m' hne q
          obtain ⟨o1, o2, o3⟩ := u4 f hne
          unfold lvI
          rw [o1, o2, o3]
          exact q
        have new := inQ_end hs hm1 (by omega) (fun f hf hne => by
          rcases Nat.lt_or_ge f t with z | z
          · exact Or.inr (keep f m hne ((lv f hf).1 z))
          · exact Or.inl (keep f (m - 1) hne ((lv f hf).2 z))) haa u5
        obtain ⟨H2, x3, x4, x5, f3, f4, f5, w1, w2, w3, w4⟩ := ih (t + 1) m H1 z1 z4' z5' c1 d4 d5 (by omega) hm1 hm2 u2 u3 (fun f hf => ⟨fun z => by
          by_cases zf : f = t
          · subst zf; exact new
          · exact keep f m zf ((lv f hf).1 (by omega)), fun z => keep f (m - 1) (by omega) ((lv f hf).2 (by omega))⟩)
        refine ⟨H2, x3, x4, x5, f3, f4, f5, ?_, w2, w3, w4⟩
        rw [st, ← w1]
        exact u1
      · obtain ⟨H2, x3, x4, x5, f3, f4, f5, w1, w2, w3, w4⟩ := ih (t + 1) m H z1 (.inl 0) z5 c1 rfl c5 (by omega) hm1 hm2 eH iH (fun f hf => ⟨fun z => by
          by_cases zf : f = t
          · subst zf; exact Or.inr ⟨k, by omega, k2, k3⟩
          · exact (lv f hf).1 (by omega), fun z => (lv f hf).2 (by omega)⟩)
        refine ⟨H2, x3, x4, x5, f3, f4, f5, ?_, w2, w3, w4⟩
        rw [st, ← w1, q128_62 (hz1 := c1) (hz5 := c5), if_neg (by rw [e1, hn]; omega), if_pos (by omega), show ((t : Nat) : Int).toNat = t by omega, if_neg (by omega), if_pos (by omega), if_pos (by omega), wI_ok (by omega) (by omega)]
        rfl
  -- all levels
  have all : ∀ (r m : Nat) (H : MH) (z1 z3 z4 z5 : MV), cat z1 = 1 → cat z3 = 1 → cat z4 = 1 → cat z5 = 1 → m + r = n → 1 ≤ m → ETr h H → InvX b Ws H → (∀ f, f < n → lvI (amN Ws h c) n s (m - 1) f (H 40) (H 41) (H 42)) →
      ∃ H2, Run (d + 6) 128 32 [vR 9, vR 12, .inl c, z1, .inl (m : Int), z3, z4, z5] [] H = some (none, H2) ∧ ETr h H2 ∧ InvX b Ws H2 ∧ ∀ f, f < n → lvI (amN Ws h c) n s (n - 1) f (H2 40) (H2 41) (H2 42) := by
    intro r
    induction r with
    | zero =>
      intro m H z1 z3 z4 z5 c1 c3 c4 c5 hm hm1 eH iH lv
      refine ⟨H, ?_, eH, iH, by rw [show n - 1 = m - 1 by omega]; exact lv⟩
      rw [q128_32 (hz1 := c1) (hz3 := c3) (hz4 := c4) (hz5 := c5), if_pos (by rw [(eH.dat (Ws := Ws)).1, hn]; omega)]
    | succ r ih =>
      intro m H z1 z3 z4 z5 c1 c3 c4 c5 hm hm1 eH iH lv
      obtain ⟨H1, x3, x4, x5, f3, f4, f5, w1, w2, w3, w4⟩ := lev n 0 m H z1 z4 z5 c1 c4 c5 (by omega) hm1 (by omega) eH iH (fun f hf => ⟨fun z => by omega, fun _ => lv f hf⟩)
      obtain ⟨H2, u1, u2, u3, u4⟩ := ih (m + 1) H1 z1 x3 x4 x5 c1 f3 f4 f5 (by omega) (by omega) w2 w3 (by rw [show m + 1 - 1 = m by omega]; exact w4)
      refine ⟨H2, ?_, u2, u3, u4⟩
      rw [q128_32 (hz1 := c1) (hz3 := c3) (hz4 := c4) (hz5 := c5), if_neg (by rw [(eH.dat (Ws := Ws)).1, hn]; omega), ← u1]
      exact w1
  -- the start
  have fill : ∀ (r k : Nat) (g : MH), k + r = 8 → (∀ a, a ≠ 40 → g a = h a) → (∀ j, j < k → g 40 j = -1) → ∃ g2, Run (d + 5) 48 5 [vR 40, .inl (-1), .inl (k : Int), .inl 8] [] g = some (none, g2) ∧ (∀ a, a ≠ 40 → g2 a = h a) ∧ ∀ j, j < 8 → g2 40 j = -1 := by
    intro r
    induction r with
    | zero =>
      intro k g hk e1 e2
      exact ⟨g, by rw [q48_5, if_pos (by omega)], e1, fun j hj => e2 j (by omega)⟩
    | succ r ih =>
      intro k g hk e1 e2
      obtain ⟨g2, u1, u2, u3⟩ := ih (k + 1) (up g 40 k (-1)) (by omega) (fun a ha => by rw [up_ne ha]; exact e1 a ha) (fun j hj => by
        by_cases z : j = k
        · subst z; exact up_s _ _ _ _
        · rw [up_i z]; exact e2 j (by omega))
      refine ⟨g2, ?_, u2, u3⟩
      rw [← u1, q48_5, if_neg (by omega), if_pos (by omega), wI_ok (by omega) (by omega), show (k : Int) + 1 = ((k + 1 : Nat) : Int) by omega, show ((k : Nat) : Int).toNat = k by omega]
  obtain ⟨g0, s1, s2, s3⟩ := fill 8 0 h rfl (fun _ _ => rfl) (fun j hj => by omega)
  have eG : ETr h (up (up (up g0 40 s 0) 41 s 0) 42 s 0) := fun a a1 a2 a3 a4 a5 a6 a7 => by rw [up_ne a7, up_ne a6, up_ne a5, s2 a a5]
  have iG : InvX b Ws (up (up (up g0 40 s 0) 41 s 0) 42 s 0) := by
    have e : Eqv h (up (up (up g0 40 s 0) 41 s 0) 42 s 0) := fun a j r => by
      have a5 : a ≠ 40 := fun z => by subst z; exact Bool.false_ne_true r
      rw [up_a (fun z => by subst z; exact Bool.false_ne_true r), up_a (fun z => by subst z; exact Bool.false_ne_true r), up_a a5, s2 a a5]
    exact e.X i
  obtain ⟨H2, u1, u2, u3, u4⟩ := all (n - 1) 1 (up (up (up g0 40 s 0) 41 s 0) 42 s 0) (.inl (s : Int)) vU vU vU rfl rfl rfl rfl (by omega) (by omega) eG iG (fun f hf => by
    have e0 : up (up (up g0 40 s 0) 41 s 0) 42 s 0 40 f = if f = s then 0 else -1 := by
      rw [up_a (by omega), up_a (by omega)]
      by_cases z : f = s
      · subst z; rw [up_s, if_pos rfl]
      · rw [up_i z, if_neg z]; exact s3 f (by omega)
    have e1 : up (up (up g0 40 s 0) 41 s 0) 42 s 0 41 s = 0 := by rw [up_a (by omega), up_s]
    have e2 : up (up (up g0 40 s 0) 41 s 0) 42 s 0 42 s = 0 := by rw [up_s]
    by_cases z : f = s
    · subst z
      refine Or.inr ⟨0, by omega, by rw [e0, if_pos rfl]; rfl, ⟨rfl, e1, e2⟩, fun j hj => by omega, fun c2 r2 w => ?_⟩
      obtain ⟨-, rfl, rfl⟩ := w
      rw [e1, e2]
      exact Or.inr ⟨rfl, Int.le_refl _⟩
    · refine Or.inl ⟨by rw [e0, if_neg z], fun k hk c r w => ?_⟩
      have : k = 0 := by omega
      subst this
      exact z w.1)
  refine ⟨H2, ?_, u2, u3, u4⟩
  rw [q128_0, q48_0]
  refine (congrArg (fun t => cV t _) s1).trans ?_
  rw [cV_some, if_pos (by omega), if_pos (by omega), if_pos (by omega), show ((s : Nat) : Int).toNat = s by omega]
  exact u1
