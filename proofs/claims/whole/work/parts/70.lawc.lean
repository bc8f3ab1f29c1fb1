/-! laws: the class' reader -/
def rdL (D : Nat → Int) : Nat → List Int → Prop
  | _, [] => True
  | n, x :: xs => D n = x ∧ rdL D (n + 1) xs
theorem rdL_app {D : Nat → Int} : ∀ (a b : List Int) (n : Nat), rdL D n (a ++ b) ↔ rdL D n a ∧ rdL D (n + a.length) b
  | [], b, n => ⟨fun h => ⟨trivial, h⟩, fun h => h.2⟩
  | x :: xs, b, n => by
    have ih := rdL_app (D := D) xs b (n + 1)
    rw [show n + 1 + xs.length = n + (xs.length + 1) by omega] at ih
    exact ⟨fun h => ⟨⟨h.1, (ih.1 h.2).1⟩, (ih.1 h.2).2⟩, fun h => ⟨h.1.1, ih.2 ⟨h.1.2, h.2⟩⟩⟩
theorem rdL_c {D D2 : Nat → Int} : ∀ (c : List Int) (n : Nat), (∀ j, n ≤ j → j < n + c.length → D2 j = D j) → rdL D n c → rdL D2 n c
  | [], _, _, _ => trivial
  | x :: xs, n, e, h => ⟨by rw [e n (Nat.le_refl _) (by show n < n + (xs.length + 1); omega)]; exact h.1, rdL_c xs (n + 1) (fun j h1 h2 => e j (by omega) (by show j < n + (xs.length + 1); omega)) h.2⟩
def frL (h h2 : MH) (n : Nat) : Prop := (∀ c, c ≠ 5 → c ≠ 22 → h2 c = h c) ∧ ∀ j, j < n → h2 22 j = h 22 j
theorem frL.rf (h : MH) (n : Nat) : frL h h n := ⟨fun _ _ _ => rfl, fun _ _ => rfl⟩
theorem frL.tr {h h1 h2 : MH} {n n2 : Nat} (e : frL h h1 n) (f : frL h1 h2 n2) (l : n ≤ n2) : frL h h2 n := ⟨fun c c1 c2 => by rw [f.1 c c1 c2, e.1 c c1 c2], fun j hj => by rw [f.2 j (by omega), e.2 j hj]⟩
theorem frL.T {T : Nat → Int} {L n : Nat} {h h2 : MH} (e : frL h h2 n) (t : TC T L h) : TC T L h2 := t.mv (by rw [e.1 _ (by omega) (by omega)]) (e.1 _ (by omega) (by omega))
def wrH (h : MH) (n : Nat) (x : Int) : MH := up (up h 22 n x) 5 1 ((n : Int) + 1)
theorem wrH_fr (h : MH) (n : Nat) (x : Int) : frL h (wrH h n x) n := ⟨fun c c1 c2 => by unfold wrH; rw [up_ne c1, up_ne c2], fun j hj => by unfold wrH; rw [up_ne (by omega), up_i (by omega)]⟩
theorem wrH_n (h : MH) (n : Nat) (x : Int) : wrH h n x 5 1 = ((n + 1 : Nat) : Int) := by unfold wrH; rw [up_s]; rfl
theorem wrH_r {h : MH} {n0 : Nat} {c : List Int} {x : Int} (r : rdL (h 22) n0 c) : rdL (wrH h (n0 + c.length) x 22) n0 (c ++ [x]) := by
  rw [rdL_app]
  refine ⟨rdL_c c n0 (fun j h1 h2 => (wrH_fr h (n0 + c.length) x).2 j h2) r, ?_, trivial⟩
  unfold wrH
  rw [up_ne (by omega), up_s]
theorem e_write (d : Nat) (h : MH) {a n : Nat} {s v : Int} (hn : h 5 1 = n) (n2 : n < 240) (s0 : 0 ≤ s) (s1 : s < 16) (v0 : 0 ≤ v) (v1 : v ≤ 9999) : Run d 33 0 [vR 5, .inl s, .inl v] [] (ca h a) = some (none, ca (wrH h n (v * 16 + s)) a) := by
  rw [q33_0, ca_ne h a (by omega), hn, if_neg (by omega), if_pos (by omega), wI_ok (x := v * 16) (by omega) (by omega), wI_ok (x := v * 16 + s) (by omega) (by omega), show ((n : Nat) : Int).toNat = n by omega, ca_up _ _ _ (by omega), ca_ne _ a (by omega), up_a (by omega), hn, wI_ok (by omega) (by omega), ca_up _ _ _ (by omega)]
  rfl
theorem e_write0 (d : Nat) (h : MH) {a n : Nat} {s : Int} (hn : h 5 1 = n) (n2 : n < 240) (s0 : 0 ≤ s) (s1 : s < 16) : Run d 33 0 [vR 5, .inl s, .inl 0] [] (ca h a) = some (none, ca (wrH h n s) a) := by
  rw [e_write d h hn n2 s0 s1 (by omega) (by omega), show (0 : Int) * 16 + s = s by omega]
abbrev CO (h : MH) (n : Nat) (o : PR) (r : Option (Option MV × MH)) : Prop := ∃ h2, r = some (some (.inl (bi (o.2.isSome = true))), ca h2 o.1) ∧ frL h h2 n ∧ ∀ c v, o.2 = some (c, v) → h2 5 1 = ((n + c.length : Nat) : Int) ∧ rdL (h2 22) n c
def CPp (T : Nat → Int) (L : Nat) (X : MH → Option (Option MV × MH)) (p : Nat → PR) : Prop := ∀ (h : MH) (a n : Nat), a ≤ L → TC T L h → h 5 1 = n → n ≤ a → CO h n (p a) (X (ca h a))
theorem CO_n {h h2 : MH} {n q : Nat} {r : Option (Option MV × MH)} (e : r = some (some (.inl 0), ca h2 q)) (f : frL h h2 n) : CO h n (q, none) r := ⟨h2, e, f, fun c v z => by cases z⟩
theorem CO_s {h h2 : MH} {n q : Nat} {c : List Int} {v : VF} {r : Option (Option MV × MH)} (e : r = some (some (.inl 1), ca h2 q)) (f : frL h h2 n) (g1 : h2 5 1 = ((n + c.length : Nat) : Int)) (g2 : rdL (h2 22) n c) : CO h n (q, some (c, v)) r := ⟨h2, e, f, fun c' v' z => by
  have e : c = c' := congrArg Prod.fst (Option.some.inj z)
  rw [← e]; exact ⟨g1, g2⟩⟩
theorem CO_nI {h : MH} {n q : Nat} {r : Option (Option MV × MH)} (g : CO h n (q, none) r) : ∃ h2, r = some (some (.inl 0), ca h2 q) ∧ frL h h2 n := by
  obtain ⟨h2, e, f, -⟩ := g
  exact ⟨h2, e, f⟩
theorem CO_sI {h : MH} {n q : Nat} {c : List Int} {v : VF} {r : Option (Option MV × MH)} (g : CO h n (q, some (c, v)) r) : ∃ h2, r = some (some (.inl 1), ca h2 q) ∧ frL h h2 n ∧ h2 5 1 = ((n + c.length : Nat) : Int) ∧ rdL (h2 22) n c := by
  obtain ⟨h2, e, f, g⟩ := g
  exact ⟨h2, e, f, g c v rfl⟩
theorem fi132 (x : Int) : fiN 132 6 x 6 0 = if x = 112 then 0 else if x = 109 then 1 else if x = 119 then 2 else if x = 104 then 3 else if x = 110 then 4 else if x = 100 then 5 else -1 := by
  have c0 : chF 132 0 = 112 := by decide +kernel
  have c1 : chF 132 1 = 109 := by decide +kernel
  have c2 : chF 132 2 = 119 := by decide +kernel
  have c3 : chF 132 3 = 104 := by decide +kernel
  have c4 : chF 132 4 = 110 := by decide +kernel
  have c5 : chF 132 5 = 100 := by decide +kernel
  simp only [fiN, c0, c1, c2, c3, c4, c5, Nat.zero_add, Nat.reduceAdd, eq_comm (b := x)]
  rfl
theorem fi_b (x : Int) : fiN 132 6 x 6 0 = -1 ∨ (0 ≤ fiN 132 6 x 6 0 ∧ fiN 132 6 x 6 0 ≤ 5 ∧ 100 ≤ x ∧ x ≤ 119) := by
  rw [fi132]
  split
  · omega
  split
  · omega
  split
  · omega
  split
  · omega
  split
  · omega
  split
  · omega
  · exact Or.inl rfl
theorem e_indexOf (d : Nat) (h : MH) {x : Int} (x0 : 0 < x) (x1 : x ≤ 127) : Run (d + 3) 26 0 [vR 125, .inl x] [] h = some (some (.inl (fiN 132 6 x 6 0)), h) := by
  have rc : ∀ k : Fin 6, ro 132 k = chF 132 k := by decide +kernel
  have tb : toB x = x := by
    have key : ∀ k : Fin 128, toB ((k : Nat) : Int) = ((k : Nat) : Int) := by decide +kernel
    have := key ⟨x.toNat, by omega⟩
    have e : (((⟨x.toNat, by omega⟩ : Fin 128) : Nat) : Int) = x := by
      show ((x.toNat : Nat) : Int) = x
      omega
    rw [e] at this
    exact this
  have key : ∀ (r k : Nat), k + r = 6 → Run d 32 7 [vR 132, .inl x, .inl 0, .inl 6, .inl x, .inl (k : Int)] [] h = some (some (.inl (fiN 132 6 x r k)), h) := by
    intro r
    induction r with
    | zero =>
      intro k hk
      rw [q32_7 (hz0 := rfl) (hz1 := rfl), if_pos (by omega)]
      rfl
    | succ r ih =>
      intro k hk
      have ef : fiN 132 6 x (r + 1) k = if chF 132 k = x then (k : Int) else fiN 132 6 x r (k + 1) := rfl
      have rk : ro 132 k = chF 132 k := rc ⟨k, by omega⟩
      rw [q32_7 (hz0 := rfl) (hz1 := rfl), if_neg (by omega), if_pos (by omega), show ((k : Nat) : Int).toNat = k by omega, rk, ef]
      by_cases q : chF 132 k = x
      · rw [if_neg (fun z => z q), if_pos q]
      · rw [if_pos q, if_neg q, wI_ok (by omega) (by omega), ← ih (k + 1) (by omega)]
        rfl
  have m1 : mx 0 0 = 0 := by decide
  have m2 : mn 6 6 = 6 := by decide
  rw [q26_0, q27_0, q12_0_2, cI_some, if_neg (by omega), s_len125 d h, cI_some, q30_0, q31_0, if_neg (by omega), if_neg (by omega), cI_some, if_pos (by omega), m1, m2, if_pos (by omega), q32_0, tb]
  have k0 := key 6 0 rfl
  have k1 : Run d 32 7 [vR 132, .inl x, .inl 0, .inl 6, .inl x, .inl 0] [] h = _ := k0
  rw [k1, cI_some, cI_some, cI_some]
theorem e_atom {T : Nat → Int} {L : Nat} (d : Nat) {x0 : Int} (x00 : 0 ≤ x0) (x06 : x0 ≤ 6) {ok : Bool} (hok : ok = true ↔ x0 < 6) {sub : Nat → PR} (hp : PL L sub) (hs : ok = true → CPp T L (fun g => Run (d + 5) 24 0 [vR 5, .inl (x0 + 1), vU, vU, vU, vU] [] g) sub) :
    CPp T L (fun g => Run (d + 6) 25 0 [vR 5, .inl x0, vU, vU, vU] [] g) (atF T L ok sub) := by
  intro h a n ha t hn hna
  have l240 := t.1.1
  obtain ⟨p, hp0⟩ : ∃ p, p = skF T L a := ⟨_, rfl⟩
  have pL : p ≤ L := by rw [hp0]; exact sk_L ha
  have pa : a ≤ p := by rw [hp0]; exact sk_le T L a
  have hd := q25_0 (d + 5) x0 (ca h a)
  rw [e_nextT t _ ha, cI_some, ← hp0] at hd
  unfold atF
  rw [← hp0]
  by_cases z1 : sgF T L p 91
  · rw [if_neg (fun z => z ((ng_sg (by omega)).2 z1))] at hd
    rw [if_pos z1]
    by_cases z2 : ok = true
    · rw [if_pos (hok.1 z2), wI_ok (by omega) (by omega), ca_nx h (by omega)] at hd
      rw [if_pos z2]
      have g := hs z2 h (p + 1) n z1.1 t hn (by omega)
      have gp := hp (p + 1) z1.1
      unfold clsF
      generalize sub (p + 1) = o at g gp ⊢
      obtain ⟨q, o⟩ := o
      have qL : q ≤ L := gp.2.1
      cases o with
      | none =>
        obtain ⟨h2, u1, u2⟩ := CO_nI g
        have u1' : Run (d + 5) 24 0 [vR 5, .inl (x0 + 1), vU, vU, vU, vU] [] (ca h (p + 1)) = some (some (.inl 0), ca h2 q) := u1
        rw [u1', cI_some, if_pos rfl] at hd
        exact CO_n hd u2
      | some cv =>
        obtain ⟨c, v⟩ := cv
        obtain ⟨h2, u1, u2, u3, u4⟩ := CO_sI g
        have u1' : Run (d + 5) 24 0 [vR 5, .inl (x0 + 1), vU, vU, vU, vU] [] (ca h (p + 1)) = some (some (.inl 1), ca h2 q) := u1
        have sl := sk_L (T := T) qL
        rw [u1', cI_some, if_neg (by omega), e_nextT (u2.T t) _ qL, cI_some] at hd
        dsimp only
        by_cases z3 : sgF T L (skF T L q) 93
        · rw [if_pos ((ng_sg (by omega)).2 z3), ca_nx h2 (by omega)] at hd
          rw [if_pos z3]
          exact CO_s hd u2 u3 u4
        · rw [if_neg (ng_no (by omega) z3)] at hd
          rw [if_neg z3]
          exact CO_n hd u2
    · rw [if_neg (fun z => z2 (hok.2 z))] at hd
      rw [if_neg z2]
      exact CO_n hd (frL.rf h n)
  · rw [if_pos (ng_no (by omega) z1)] at hd
    rw [if_neg z1]
    have lt : ltF T L p = fiN 132 6 (lkG T L p) 6 0 := rfl
    have hd2 : Run (d + 6) 25 0 [vR 5, .inl x0, vU, vU, vU] [] (ca h a) = Run (d + 6) 25 89 [vR 5, .inl x0, .inl (ngF T L p), vU, vU] [.inl (ltF T L p)] (ca h p) := by
      by_cases z2 : 0 < ngF T L p
      · have z3 : p < L := by
          apply Classical.byContradiction
          intro z
          unfold ngF at z2
          rw [if_neg z] at z2
          omega
        have b := t.2 p z3
        have e1 : ngF T L p = T p := by unfold ngF; rw [if_pos z3]
        have e2 : lkG T L p = T p := by unfold lkG l8F; rw [if_pos z3, if_neg (by omega)]
        have e3 : toC (T p) = T p := by
          have key : ∀ k : Fin 128, toC ((k : Nat) : Int) = ((k : Nat) : Int) := by decide +kernel
          have := key ⟨(T p).toNat, by omega⟩
          have e : (((⟨(T p).toNat, by omega⟩ : Fin 128) : Nat) : Int) = T p := by
            show (((T p).toNat : Nat) : Int) = T p
            omega
          rw [e] at this
          exact this
        rw [hd, if_pos z2, e1, e3, e_indexOf (d + 2) _ (by omega) (by omega), cI_some, lt, e2]
      · have e : ltF T L p = -1 := by
          rw [lt]
          rcases fi_b (lkG T L p) with z | ⟨-, -, z3, z4⟩
          · exact z
          · exfalso
            apply z2
            unfold lkG l8F at z3 z4
            unfold ngF
            by_cases z5 : p < L
            · have b := t.2 p z5
              rw [if_pos z5] at z3 z4 ⊢
              by_cases z6 : T p < 0
              · rw [if_pos z6] at z3 z4; omega
              · rw [if_neg z6] at z3 z4; omega
            · rw [if_neg z5] at z3; omega
        rw [hd, if_neg z2, e]
    rw [q25_89 (hz0 := rfl) (hz1 := rfl) (hz2 := rfl) (hz3 := rfl)] at hd2
    have fb := fi_b (lkG T L p)
    rw [← lt] at fb
    by_cases z2 : ltF T L p = -1
    · have en := e_number t (d + 5) (m := 4) (p := p) (by omega) pL
      have en' : Run (d + 5) 16 0 [vR 1, .inl 4, vU, vU] [] (ca h p) = _ := en
      rw [if_pos (by omega), en', cI_some] at hd2
      rw [if_neg (fun z => z z2)]
      have nl := nm_L (T := T) 4 p 0 false pL
      have np := nm_p (T := T) (L := L) 4 p 0 false
      have nb := nm_b (T := T) (L := L) 4 p 0 false 0 (by omega) (by simp)
      generalize nmF T L 4 p 0 false = o at nl np nb hd2 ⊢
      obtain ⟨q, o⟩ := o
      unfold nuF
      cases o with
      | none =>
        have e : nvF (q, (none : Option Int)).2 = -1 := rfl
        rw [e, if_neg (fun z => z rfl)] at hd2
        exact CO_n hd2 (frL.rf h n)
      | some v =>
        have e : nvF (q, (some v : Option Int)).2 = v := rfl
        have vb : 0 ≤ v ∧ v < 10 ^ (0 + 4) := nb v rfl
        have ql : q ≤ L := nl.2
        have qp : p < q := by
          rcases np v rfl with z | z
          · cases z
          · exact z
        rw [e, if_pos (by omega), e_write (d + 5) h hn (by omega) (by omega) (by omega) (by omega) (by omega), cV_some, show v * 16 + 0 = v * 16 by omega] at hd2
        refine CO_s hd2 (wrH_fr h n _) ?_ ?_
        · rw [wrH_n]; rfl
        · exact wrH_r (c := []) (x := v * 16) trivial
    · have pl : p < L := by
        apply Classical.byContradiction
        intro z
        apply z2
        have : lkG T L p = -1 := by unfold lkG; rw [if_neg z]
        rw [lt, this]
        decide +kernel
      rw [if_neg (by omega), ca_nx h (by omega), e_write (d + 5) h hn (by omega) (by omega) (by omega) (by omega) (by omega), cV_some] at hd2
      rw [if_pos z2]
      refine CO_s hd2 (wrH_fr h n _) ?_ ?_
      · rw [wrH_n]; rfl
      · exact wrH_r (c := []) trivial
theorem e_join {T : Nat → Int} {L p d : Nat} {h : MH} : Run d 34 0 [.inl (ngF T L p)] [] h = some (some (.inl (jnF T L p)), h) := by
  rw [q34_0]
  unfold jnF
  have k1 := ng_sg (T := T) (L := L) (p := p) (s := 42) (by omega)
  have k2 := ng_sg (T := T) (L := L) (p := p) (s := 43) (by omega)
  have k3 := ng_sg (T := T) (L := L) (p := p) (s := 45) (by omega)
  have k4 := ng_sg (T := T) (L := L) (p := p) (s := 47) (by omega)
  by_cases q1 : sgF T L p 42
  · rw [if_pos (k1.2 q1), if_pos q1]
  · rw [if_neg (fun z => q1 (k1.1 z)), if_neg q1]
    by_cases q2 : sgF T L p 43
    · rw [if_pos (k2.2 q2), if_pos q2]
    · rw [if_neg (fun z => q2 (k2.1 z)), if_neg q2]
      by_cases q3 : sgF T L p 45
      · rw [if_pos (k3.2 q3), if_pos q3]
      · rw [if_neg (fun z => q3 (k3.1 z)), if_neg q3]
        by_cases q4 : sgF T L p 47
        · rw [if_pos (k4.2 q4), if_pos q4]
        · rw [if_neg (fun z => q4 (k4.1 z)), if_neg q4]
theorem e_comp {T : Nat → Int} {L p d : Nat} {h : MH} : Run d 35 0 [.inl (ngF T L p)] [] h = some (some (.inl (cgF T L p)), h) := by
  rw [q35_0]
  unfold cgF
  have k1 := ng_sg (T := T) (L := L) (p := p) (s := 60) (by omega)
  have k2 := ng_sg (T := T) (L := L) (p := p) (s := 61) (by omega)
  have k3 := ng_sg (T := T) (L := L) (p := p) (s := 62) (by omega)
  by_cases q1 : sgF T L p 60
  · rw [if_pos (k1.2 q1), if_pos q1]
  · rw [if_neg (fun z => q1 (k1.1 z)), if_neg q1]
    by_cases q2 : sgF T L p 61
    · rw [if_pos (k2.2 q2), if_pos q2]
    · rw [if_neg (fun z => q2 (k2.1 z)), if_neg q2]
      by_cases q3 : sgF T L p 62
      · rw [if_pos (k3.2 q3), if_pos q3]
      · rw [if_neg (fun z => q3 (k3.1 z)), if_neg q3]
theorem CO_fr {h h1 : MH} {n n2 : Nat} {o : PR} {r : Option (Option MV × MH)} (f : frL h h1 n) (l : n ≤ n2) {c0 : List Int} (r0 : rdL (h1 22) n c0) (e : n2 = n + c0.length) (g : CO h1 n2 o r) : ∃ h2, r = some (some (.inl (bi (o.2.isSome = true))), ca h2 o.1) ∧ frL h h2 n ∧ ∀ c v, o.2 = some (c, v) → h2 5 1 = ((n + (c0 ++ c).length : Nat) : Int) ∧ rdL (h2 22) n (c0 ++ c) := by
  obtain ⟨h2, g1, g2, g3⟩ := g
  refine ⟨h2, g1, f.tr g2 l, fun c v hc => ?_⟩
  obtain ⟨k1, k2⟩ := g3 c v hc
  refine ⟨by rw [k1, List.length_append]; omega, ?_⟩
  rw [rdL_app]
  exact ⟨rdL_c c0 n (fun j j1 j2 => g2.2 j (by omega)) r0, by rw [← e]; exact k2⟩
theorem e_sumL {T : Nat → Int} {L : Nat} (d : Nat) {x0 : Int} {at_ : Nat → PR} (hp : PL L at_) (hs : CPp T L (fun g => Run d 25 0 [vR 5, .inl x0, vU, vU, vU] [] g) at_) :
    ∀ (r i a n : Nat) (w : Int) (cs : List Int) (vs vt : VF) (z3 z4 : MV) (h : MH), i + r = 241 → 241 ≤ a + r → a ≤ L → TC T L h → cat z3 = 1 → cat z4 = 1 → (w = -1 ∨ w = 2 ∨ w = 3) → h 5 1 = ((n + cs.length : Nat) : Int) → rdL (h 22) n cs → n + (fwF w cs).length ≤ a →
      CO h n (smL T L at_ r a w cs vs vt) (Run (d + 1) 24 14 [vR 5, .inl x0, .inl w, .inl (i : Int), z3, z4] [] (ca h a)) := by
  intro r
  induction r with
  | zero =>
    intro i a n w cs vs vt z3 z4 h hi hr ha t c3 c4 hw hn rd hl
    have := t.1.1
    omega
  | succ r ih =>
    intro i a n w cs vs vt z3 z4 h hi hr ha t c3 c4 hw hn rd hl
    have l240 := t.1.1
    have l1 := sk_le T L a
    have l2 := sk_L (T := T) ha
    have fl := fw_len w cs
    have hd := q24_14 d x0 w (i : Int) z3 c3 z4 c4 (ca h a)
    rw [if_neg (by omega), e_nextT t d ha, cI_some, e_join, cI_some] at hd
    -- a waiting one is written
    have wr : ∀ p : Nat, ¬ w = -1 → n + (cs.length + 1) ≤ 240 → Run d 33 0 [vR 5, .inl w, .inl 0] [] (ca h p) = some (none, ca (wrH h (n + cs.length) w) p) := fun p q1 q2 => e_write0 d h hn (by omega) (by omega) (by omega)
    unfold smL
    rcases jn_c T L (skF T L a) with q | ⟨q, q2⟩
    · rw [if_neg (fun z => z q)] at hd
      rw [if_pos q]
      by_cases q3 : w = -1
      · rw [if_pos q3] at hd
        have e : fwF w cs = cs := by unfold fwF; rw [if_pos q3]
        rw [e]
        exact CO_s hd (frL.rf h n) hn rd
      · rw [if_neg q3] at fl
        rw [if_neg q3, wr _ q3 (by omega), cV_some] at hd
        have e : fwF w cs = cs ++ [w] := by unfold fwF; rw [if_neg q3]
        rw [e]
        have f := wrH_fr h (n + cs.length) w
        refine CO_s hd ⟨f.1, fun j hj => f.2 j (by omega)⟩ ?_ (wrH_r rd)
        rw [wrH_n, List.length_append]
        show ((n + cs.length + 1 : Nat) : Int) = ((n + (cs.length + 1) : Nat) : Int)
        omega
    · rw [if_neg (by omega)]
      rw [if_pos (by omega), ca_nx h (by omega)] at hd
      -- the state behind the sign
      have st : ∃ h1, frL h h1 n ∧ TC T L h1 ∧ (jnF T L (skF T L a) = 2 ∨ jnF T L (skF T L a) = 3 → h1 5 1 = ((n + (fwF w cs).length : Nat) : Int) ∧ rdL (h1 22) n (fwF w cs)) ∧ (¬ (jnF T L (skF T L a) = 2 ∨ jnF T L (skF T L a) = 3) → h1 = h) ∧ Run (d + 1) 24 14 [vR 5, .inl x0, .inl w, .inl (i : Int), z3, z4] [] (ca h a) = Run (d + 1) 24 90 [vR 5, .inl x0, .inl w, .inl (i : Int), .inl (jnF T L (skF T L a)), .inl (bi (jnF T L (skF T L a) = 2 ∨ jnF T L (skF T L a) = 3))] [] (ca h1 (skF T L a + 1)) := by
        by_cases q3 : w = -1
        · have e : fwF w cs = cs := by unfold fwF; rw [if_pos q3]
          refine ⟨h, frL.rf h n, t, fun _ => by rw [e]; exact ⟨hn, rd⟩, fun _ => rfl, ?_⟩
          rw [hd]
          by_cases q4 : jnF T L (skF T L a) = 2
          · rw [if_pos q4, if_pos q3, bi_t (Or.inl q4)]
          · rw [if_neg q4]
            by_cases q5 : jnF T L (skF T L a) = 3
            · rw [if_neg (fun z => z q5), if_pos q3, bi_t (Or.inr q5)]
            · rw [if_pos q5, bi_f (by omega)]
        · rw [if_neg q3] at fl
          have e : fwF w cs = cs ++ [w] := by unfold fwF; rw [if_neg q3]
          have f := wrH_fr h (n + cs.length) w
          have f' : frL h (wrH h (n + cs.length) w) n := ⟨f.1, fun j hj => f.2 j (by omega)⟩
          have k : wrH h (n + cs.length) w 5 1 = ((n + (fwF w cs).length : Nat) : Int) ∧ rdL (wrH h (n + cs.length) w 22) n (fwF w cs) := by
            refine ⟨?_, by rw [e]; exact wrH_r rd⟩
            rw [wrH_n, fl]
            omega
          by_cases q4 : jnF T L (skF T L a) = 2
          · refine ⟨_, f', f'.T t, fun _ => k, fun z => absurd (Or.inl q4) z, ?_⟩
            rw [hd, if_pos q4, if_neg q3, wr _ q3 (by omega), cV_some, bi_t (Or.inl q4)]
          · by_cases q5 : jnF T L (skF T L a) = 3
            · refine ⟨_, f', f'.T t, fun _ => k, fun z => absurd (Or.inr q5) z, ?_⟩
              rw [hd, if_neg q4, if_neg (fun z => z q5), if_neg q3, wr _ q3 (by omega), cV_some, bi_t (Or.inr q5)]
            · refine ⟨h, frL.rf h n, t, fun z => by omega, fun _ => rfl, ?_⟩
              rw [hd, if_neg q4, if_pos q5, bi_f (by omega)]
      obtain ⟨h1, f1, t1, s1, s2, hd1⟩ := st
      rw [q24_90] at hd1
      have gp := hp (skF T L a + 1) q2
      by_cases q4 : jnF T L (skF T L a) = 2 ∨ jnF T L (skF T L a) = 3
      · obtain ⟨m1, m2⟩ := s1 q4
        have g := hs h1 (skF T L a + 1) (n + (fwF w cs).length) q2 t1 m1 (by omega)
        generalize at_ (skF T L a + 1) = o at g gp ⊢
        obtain ⟨q5, o⟩ := o
        have g1 : skF T L a + 1 ≤ q5 := gp.1
        have g2 : q5 ≤ L := gp.2.1
        cases o with
        | none =>
          obtain ⟨h2, u1, u2⟩ := CO_nI g
          have u1' : Run d 25 0 [vR 5, .inl x0, vU, vU, vU] [] (ca h1 (skF T L a + 1)) = some (some (.inl 0), ca h2 q5) := u1
          rw [u1', cI_some, if_neg (fun z => z rfl)] at hd1
          exact CO_n hd1 (f1.tr u2 (by omega))
        | some cv =>
          obtain ⟨c, v⟩ := cv
          have g3 : skF T L a + 1 + c.length ≤ q5 := (gp.2.2 c v rfl).1
          obtain ⟨h2, u1, u2, u3, u4⟩ := CO_sI g
          have u1' : Run d 25 0 [vR 5, .inl x0, vU, vU, vU] [] (ca h1 (skF T L a + 1)) = some (some (.inl 1), ca h2 q5) := u1
          rw [u1', cI_some, if_pos (by omega), bi_t q4, if_neg (by omega), wI_ok (by omega) (by omega)] at hd1
          dsimp only
          rw [if_pos q4]
          have e1 := fw_len (jnF T L (skF T L a)) (fwF w cs ++ c)
          rw [List.length_append, if_neg (by omega)] at e1
          have fr := f1.tr u2 (show n ≤ n + (fwF w cs).length by omega)
          have ii := ih (i + 1) q5 n (jnF T L (skF T L a)) (fwF w cs ++ c) (fvF w vs vt) v (.inl (jnF T L (skF T L a))) (.inl 1) h2 (by omega) (by omega) g2 (fr.T t) rfl rfl (by omega) (by rw [u3, List.length_append]; omega) (by
            rw [rdL_app]
            exact ⟨rdL_c _ n (fun j j1 j2 => u2.2 j j2) m2, u4⟩) (by omega)
          obtain ⟨h3, v1, v2, v3⟩ := ii
          exact ⟨h3, hd1.trans v1, fr.tr v2 (Nat.le_refl n), v3⟩
      · have hh := s2 q4
        subst hh
        have g := hs h1 (skF T L a + 1) (n + cs.length) q2 t1 hn (by omega)
        generalize at_ (skF T L a + 1) = o at g gp ⊢
        obtain ⟨q5, o⟩ := o
        have g1 : skF T L a + 1 ≤ q5 := gp.1
        have g2 : q5 ≤ L := gp.2.1
        cases o with
        | none =>
          obtain ⟨h2, u1, u2⟩ := CO_nI g
          have u1' : Run d 25 0 [vR 5, .inl x0, vU, vU, vU] [] (ca h1 (skF T L a + 1)) = some (some (.inl 0), ca h2 q5) := u1
          rw [u1', cI_some, if_neg (fun z => z rfl)] at hd1
          exact CO_n hd1 (f1.tr u2 (by omega))
        | some cv =>
          obtain ⟨c, v⟩ := cv
          have g3 : skF T L a + 1 + c.length ≤ q5 := (gp.2.2 c v rfl).1
          obtain ⟨h2, u1, u2, u3, u4⟩ := CO_sI g
          have u1' : Run d 25 0 [vR 5, .inl x0, vU, vU, vU] [] (ca h1 (skF T L a + 1)) = some (some (.inl 1), ca h2 q5) := u1
          have u3' : h2 5 1 = ((n + (cs ++ c).length : Nat) : Int) := by rw [u3, List.length_append]; omega
          have e3 : (cs ++ c).length = cs.length + c.length := List.length_append
          rw [u1', cI_some, if_pos (by omega), bi_f q4, if_pos rfl, e_write0 d h2 u3' (by omega) (by omega) (by omega), cV_some, wI_ok (by omega) (by omega)] at hd1
          dsimp only
          rw [if_neg q4]
          have rd2 : rdL (h2 22) n (cs ++ c) := by
            rw [rdL_app]
            exact ⟨rdL_c _ n (fun j j1 j2 => u2.2 j j2) rd, u4⟩
          have f3 := wrH_fr h2 (n + (cs ++ c).length) (jnF T L (skF T L a))
          have fr : frL h1 (wrH h2 (n + (cs ++ c).length) (jnF T L (skF T L a))) n := u2.tr f3 (by omega) |> fun z => ⟨z.1, fun j hj => z.2 j (by omega)⟩
          have e2 : (cs ++ c ++ [jnF T L (skF T L a)]).length = cs.length + c.length + 1 := by rw [List.length_append, List.length_append]; rfl
          have e1 := fw_len w (cs ++ c ++ [jnF T L (skF T L a)])
          rw [e2] at e1
          have ii := ih (i + 1) q5 n w (cs ++ c ++ [jnF T L (skF T L a)]) vs (fun lt => jvF (jnF T L (skF T L a)) (vt lt) (v lt)) (.inl (jnF T L (skF T L a))) (.inl 0) _ (by omega) (by omega) g2 (fr.T t1) rfl rfl hw (by rw [wrH_n, e2, e3]; omega) (wrH_r rd2) (by omega)
          obtain ⟨h3, v1, v2, v3⟩ := ii
          exact ⟨h3, hd1.trans v1, fr.tr v2 (Nat.le_refl n), v3⟩
theorem e_sum {T : Nat → Int} {L : Nat} (d : Nat) {x0 : Int} {at_ : Nat → PR} (hp : PL L at_) (hs : CPp T L (fun g => Run d 25 0 [vR 5, .inl x0, vU, vU, vU] [] g) at_) : CPp T L (fun g => Run (d + 1) 24 0 [vR 5, .inl x0, vU, vU, vU, vU] [] g) (suF T L at_) := by
  intro h a n ha t hn hna
  have hd := q24_0 d x0 (ca h a)
  have g := hs h a n ha t hn hna
  have gp := hp a ha
  unfold suF
  generalize at_ a = o at g gp ⊢
  obtain ⟨q5, o⟩ := o
  cases o with
  | none =>
    obtain ⟨h2, u1, u2⟩ := CO_nI g
    have u1' : Run d 25 0 [vR 5, .inl x0, vU, vU, vU] [] (ca h a) = some (some (.inl 0), ca h2 q5) := u1
    rw [u1', cI_some, if_neg (fun z => z rfl)] at hd
    exact CO_n hd u2
  | some cv =>
    obtain ⟨c, v⟩ := cv
    obtain ⟨h2, u1, u2, u3, u4⟩ := CO_sI g
    have u1' : Run d 25 0 [vR 5, .inl x0, vU, vU, vU] [] (ca h a) = some (some (.inl 1), ca h2 q5) := u1
    rw [u1', cI_some, if_pos (by omega)] at hd
    have g3 : a + c.length ≤ q5 := (gp.2.2 c v rfl).1
    have ii := e_sumL d hp hs 241 0 q5 n (-1) c (fun _ => 0) v vU vU h2 (by omega) (by omega) gp.2.1 (u2.T t) rfl rfl (Or.inl rfl) u3 u4 (by show n + c.length ≤ q5; omega)
    obtain ⟨h3, v1, v2, v3⟩ := ii
    exact ⟨h3, hd.trans v1, u2.tr v2 (Nat.le_refl n), v3⟩
theorem e_lvA (T : Nat → Int) (L : Nat) : ∀ (k d : Nat), k ≤ 6 → CPp T L (fun g => Run (d + 2 * k + 6) 25 0 [vR 5, .inl (6 - (k : Int)), vU, vU, vU] [] g) (lvA T L k)
  | 0, d, _ => e_atom d (by omega) (by omega) (by constructor <;> intro z <;> first | cases z | omega) (no_P L) (fun z => by cases z)
  | k + 1, d, hk => by
    have ih := e_sum (d + 2 * k + 6) (lvA_P T L k) (e_lvA T L k d (by omega))
    have e := e_atom (T := T) (L := L) (d + 2 * k + 2) (x0 := 6 - ((k + 1 : Nat) : Int)) (by omega) (by omega) (ok := true) (by constructor <;> intro _ <;> first | rfl | omega) (smF_P (lvA_P T L k)) (fun _ => by
      rw [show (6 - ((k + 1 : Nat) : Int) + 1) = 6 - (k : Int) by omega]
      exact ih)
    exact e
theorem e_lvS (T : Nat → Int) (L k d : Nat) (hk : k ≤ 6) : CPp T L (fun g => Run (d + 2 * k + 7) 24 0 [vR 5, .inl (6 - (k : Int)), vU, vU, vU, vU] [] g) (lvS T L k) := e_sum (d + 2 * k + 6) (lvA_P T L k) (e_lvA T L k d hk)
