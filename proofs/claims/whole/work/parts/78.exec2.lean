/-! laws: what a law's code is worth -/
def PX (c : List Int) (l : List VF) (nd : Nat) : Prop := ∀ (d r0 sz : Nat) (CD LT : Nat → Int) (i dp : Nat) (h : MH) (z3 z4 : MV), r0 < 4 → sz ≤ 240 → b3 LT → EV r0 sz CD LT h → cat z3 = 1 → cat z4 = 1 → rdL CD i c → i + c.length ≤ sz → dp + nd ≤ 64 →
  ∃ h2 z5 z6, (cat z5 = 1 ∧ cat z6 = 1) ∧ Run (d + 2) 84 34 [vR 6, vR (25 + r0), .inl (dp : Int), .inl (i : Int), z3, z4] [] h = Run (d + 2) 84 34 [vR 6, vR (25 + r0), .inl ((dp + l.length : Nat) : Int), .inl ((i + c.length : Nat) : Int), z5, z6] [] h2 ∧ (∀ a, a ≠ 30 → h2 a = h a) ∧ (∀ j, j < dp → h2 30 j = h 30 j) ∧ rdL (h2 30) dp (l.map fun v => v (lt6 LT))
theorem PX_mono {c : List Int} {l : List VF} {n m : Nat} (h : PX c l n) (e : n ≤ m) : PX c l m := fun d r0 sz CD LT i dp h' z3 z4 a1 a2 a3 a4 a5 a6 a7 a8 a9 => h d r0 sz CD LT i dp h' z3 z4 a1 a2 a3 a4 a5 a6 a7 a8 (by omega)
theorem PX_app {c1 c2 : List Int} {l1 l2 : List VF} {n1 n2 n : Nat} (p : PX c1 l1 n1) (q : PX c2 l2 n2) (e1 : n1 ≤ n) (e2 : l1.length + n2 ≤ n) : PX (c1 ++ c2) (l1 ++ l2) n := by
  intro d r0 sz CD LT i dp h z3 z4 a1 a2 a3 a4 a5 a6 a7 a8 a9
  rw [rdL_app] at a7
  rw [List.length_append] at a8
  obtain ⟨h2, z5, z6, ⟨y5, y6⟩, u1, u2, u3, u4⟩ := p d r0 sz CD LT i dp h z3 z4 a1 a2 a3 a4 a5 a6 a7.1 (by omega) (by omega)
  obtain ⟨h3, z7, z8, y, v1, v2, v3, v4⟩ := q d r0 sz CD LT (i + c1.length) (dp + l1.length) h2 z5 z6 a1 a2 a3 (a4.mv a1 u2) y5 y6 a7.2 (by omega) (by omega)
  refine ⟨h3, z7, z8, y, ?_, fun a ha => by rw [v2 a ha, u2 a ha], fun j hj => by rw [v3 j (by omega), u3 j hj], ?_⟩
  · rw [u1, v1, List.length_append, List.length_append, show dp + (l1.length + l2.length) = dp + l1.length + l2.length by omega, show i + (c1.length + c2.length) = i + c1.length + c2.length by omega]
  · rw [List.map_append, rdL_app, List.length_map]
    refine ⟨rdL_c _ dp (fun j j1 j2 => v3 j ?_) u4, v4⟩
    rw [List.length_map] at j2
    exact j2
theorem PX_num {V : Int} (v0 : 0 ≤ V) (v1 : V ≤ 9999) {n : Nat} (hn : 1 ≤ n) : PX [V * 16] [fun _ => V] n := by
  intro d r0 sz CD LT i dp h z3 z4 a1 a2 a3 a4 a5 a6 a7 a8 a9
  have l1 : i + 1 ≤ sz := a8
  exact ⟨_, _, _, ⟨rfl, rfl⟩, st_num d a4 a1 a2 (by omega) (by omega) a5 a6 a7.1 v0 v1, fun a ha => up_ne ha, fun j hj => up_i (by omega), up_s _ _ _ _, trivial⟩
theorem PX_let {V : Int} (v0 : 0 ≤ V) (v1 : V ≤ 5) {n : Nat} (hn : 1 ≤ n) : PX [V * 16 + 1] [fun lt => lt V.toNat] n := by
  intro d r0 sz CD LT i dp h z3 z4 a1 a2 a3 a4 a5 a6 a7 a8 a9
  have l1 : i + 1 ≤ sz := a8
  refine ⟨_, _, _, ⟨rfl, rfl⟩, st_let d a4 a1 a2 (by omega) (by omega) a5 a6 a7.1 v0 v1, fun a ha => up_ne ha, fun j hj => up_i (by omega), ?_, trivial⟩
  rw [up_s]
  show LT V.toNat = lt6 LT V.toNat
  rw [lt6_k LT (by omega)]
theorem PX_op {c : List Int} {l : List VF} {x y z : VF} {s : Int} {n : Nat} (p : PX c (l ++ [x, y]) n) (b : ∀ LT, b3 LT → opB s (x (lt6 LT)) (y (lt6 LT))) (hz : ∀ LT, b3 LT → z (lt6 LT) = opV s (x (lt6 LT)) (y (lt6 LT))) (hn : l.length + 2 ≤ n) : PX (c ++ [s]) (l ++ [z]) n := by
  intro d r0 sz CD LT i dp h z3 z4 a1 a2 a3 a4 a5 a6 a7 a8 a9
  rw [rdL_app] at a7
  rw [List.length_append] at a8
  have a8' : i + (c.length + 1) ≤ sz := a8
  obtain ⟨h2, z5, z6, ⟨y5, y6⟩, u1, u2, u3, u4⟩ := p d r0 sz CD LT i dp h z3 z4 a1 a2 a3 a4 a5 a6 a7.1 (by omega) (by omega)
  rw [List.map_append, rdL_app, List.length_map] at u4
  obtain ⟨w1, w2, w3, -⟩ := u4
  have w2' : h2 30 (dp + l.length) = x (lt6 LT) := w2
  have w3' : h2 30 (dp + l.length + 1) = y (lt6 LT) := w3
  have ev := a4.mv a1 u2
  have so := st_op d ev a1 a2 (i := i + c.length) (by omega) (dp := dp + l.length) (by omega) y5 y6 (s := s) a7.2.1 (by rw [w2', w3']; exact b LT a3)
  rw [w2', w3', ← hz LT a3] at so
  refine ⟨up h2 30 (dp + l.length) (z (lt6 LT)), .inl s, .inl 0, ⟨rfl, rfl⟩, ?_, fun a ha => by rw [up_ne ha, u2 a ha], fun j hj => by rw [up_i (by omega), u3 j hj], ?_⟩
  · rw [u1]
    have e1 : dp + (l ++ [x, y]).length = dp + l.length + 2 := by rw [List.length_append]; show dp + (l.length + 2) = _; omega
    have e2 : dp + (l ++ [z]).length = dp + l.length + 1 := by rw [List.length_append]; show dp + (l.length + 1) = _; omega
    have e3 : i + (c ++ [s]).length = i + c.length + 1 := by rw [List.length_append]; show i + (c.length + 1) = _; omega
    rw [e1, e2, e3]
    exact so
  · rw [List.map_append, rdL_app, List.length_map]
    refine ⟨rdL_c _ dp (fun j j1 j2 => ?_) w1, up_s _ _ _ _, trivial⟩
    rw [List.length_map] at j2
    exact up_i (by omega)
theorem PX_not {c : List Int} {x : VF} {n : Nat} (p : PX c [x] n) (b : V01 x) (hn : 1 ≤ n) : PX (c ++ [11]) [fun lt => 1 - x lt] n := by
  intro d r0 sz CD LT i dp h z3 z4 a1 a2 a3 a4 a5 a6 a7 a8 a9
  rw [rdL_app] at a7
  rw [List.length_append] at a8
  have a8' : i + (c.length + 1) ≤ sz := a8
  obtain ⟨h2, z5, z6, ⟨y5, y6⟩, u1, u2, u3, u4⟩ := p d r0 sz CD LT i dp h z3 z4 a1 a2 a3 a4 a5 a6 a7.1 (by omega) (by omega)
  have w : h2 30 dp = x (lt6 LT) := u4.1
  have ev := a4.mv a1 u2
  have so := st_not d ev a1 a2 (i := i + c.length) (by omega) (dp := dp) (by omega) y5 y6 a7.2.1 (by rw [w]; exact b _)
  refine ⟨up h2 30 dp (1 - h2 30 dp), .inl 11, .inl 0, ⟨rfl, rfl⟩, ?_, fun a ha => by rw [up_ne ha, u2 a ha], fun j hj => by rw [up_i (by omega), u3 j hj], ?_, trivial⟩
  · rw [u1]
    have e3 : i + (c ++ [(11 : Int)]).length = i + c.length + 1 := by rw [List.length_append]; show i + (c.length + 1) = _; omega
    rw [e3]
    exact so
  · rw [up_s, w]
def XR (n : Nat) (o : PR) : Prop := ∀ q c v, o = (q, some (c, v)) → PX c [v] n ∧ VB v
def XB (n : Nat) (o : PR) : Prop := ∀ q c v, o = (q, some (c, v)) → PX c [v] n ∧ V01 v
theorem XR_n {n q : Nat} : XR n (q, none) := fun q c v h => by cases h
theorem XB_n {n q : Nat} : XB n (q, none) := fun q c v h => by cases h
theorem XR_s {n q : Nat} {c : List Int} {v : VF} (p : PX c [v] n) (b : VB v) : XR n (q, some (c, v)) := fun q' c' v' h => by
  cases h
  exact ⟨p, b⟩
theorem XB_s {n q : Nat} {c : List Int} {v : VF} (p : PX c [v] n) (b : V01 v) : XB n (q, some (c, v)) := fun q' c' v' h => by
  cases h
  exact ⟨p, b⟩
theorem x_cls {T : Nat → Int} {L n : Nat} {s : Int} {o : PR} (h : XR n o) : XR n (clsF T L s o) := by
  obtain ⟨q, o⟩ := o
  unfold clsF
  cases o with
  | none => exact XR_n
  | some r =>
    dsimp only
    split
    · obtain ⟨c, v⟩ := r
      exact XR_s (h q c v rfl).1 (h q c v rfl).2
    · exact XR_n
theorem xb_cls {T : Nat → Int} {L n : Nat} {s : Int} {o : PR} (h : XB n o) : XB n (clsF T L s o) := by
  obtain ⟨q, o⟩ := o
  unfold clsF
  cases o with
  | none => exact XB_n
  | some r =>
    dsimp only
    split
    · obtain ⟨c, v⟩ := r
      exact XB_s (h q c v rfl).1 (h q c v rfl).2
    · exact XB_n
theorem x_at {T : Nat → Int} {L n : Nat} {ok : Bool} {sub : Nat → PR} (h : ∀ a, XR n (sub a)) (hn : 1 ≤ n) (a : Nat) : XR n (atF T L ok sub a) := by
  unfold atF
  split
  · split
    · exact x_cls (h _)
    · exact XR_n
  · split
    · rename_i z
      have fb : ltF T L (skF T L a) = -1 ∨ _ := fi_b (lkG T L (skF T L a))
      have fb' : 0 ≤ ltF T L (skF T L a) ∧ ltF T L (skF T L a) ≤ 5 := by
        rcases fb with y | y
        · exact absurd y z
        · exact ⟨y.1, y.2.1⟩
      refine XR_s (PX_let fb'.1 fb'.2 hn) (fun LT b => ?_)
      show -1000000 ≤ lt6 LT _ ∧ lt6 LT _ ≤ 1000000
      rw [lt6_k LT (by omega)]
      have := b (ltF T L (skF T L a)).toNat (by omega)
      omega
    · have nb := nm_b (T := T) (L := L) 4 (skF T L a) 0 false 0 (by omega) (by simp)
      generalize nmF T L 4 (skF T L a) 0 false = o at nb ⊢
      obtain ⟨q, o⟩ := o
      unfold nuF
      cases o with
      | none => exact XR_n
      | some v =>
        have vb : 0 ≤ v ∧ v < 10 ^ (0 + 4) := nb v rfl
        exact XR_s (PX_num vb.1 (by omega) hn) (fun LT _ => by show -1000000 ≤ v ∧ v ≤ 1000000; omega)
theorem jv_b (s x y : Int) : -1000000 ≤ jvF s x y ∧ jvF s x y ≤ 1000000 := by
  unfold jvF
  split
  · exact cM_b _
  split
  · exact cM_b _
  split
  · exact cM_b _
  split
  · exact cM_b _
  · exact cM_b _
theorem op_jv {s : Int} (h : s = 2 ∨ s = 3 ∨ s = 4 ∨ s = 5) (x y : Int) : jvF s x y = opV s x y := by
  unfold opV
  rw [if_pos (by omega)]
abbrev lsF (w : Int) (vs vt : VF) : List VF := if w = -1 then [vt] else [vs, vt]
theorem x_fw {cs : List Int} {w : Int} {vs vt : VF} {n : Nat} (hw : w = -1 ∨ w = 2 ∨ w = 3) (p : PX cs (lsF w vs vt) n) (bs : VB vs) (bt : VB vt) (hn : 2 ≤ n) : PX (fwF w cs) [fvF w vs vt] n ∧ VB (fvF w vs vt) := by
  unfold fwF fvF
  unfold lsF at p
  by_cases q : w = -1
  · rw [if_pos q] at p ⊢
    rw [if_pos q]
    exact ⟨p, bt⟩
  · rw [if_neg q] at p ⊢
    rw [if_neg q]
    refine ⟨PX_op (l := []) p (fun LT b => Or.inl ⟨by omega, bs LT b, bt LT b⟩) (fun LT b => op_jv (by omega) _ _) hn, fun LT b => jv_b _ _ _⟩
theorem x_smL {T : Nat → Int} {L n : Nat} {at_ : Nat → PR} (h : ∀ a, XR n (at_ a)) (hn : 1 ≤ n) : ∀ (r a : Nat) (w : Int) (cs : List Int) (vs vt : VF), (w = -1 ∨ w = 2 ∨ w = 3) → PX cs (lsF w vs vt) (n + 2) → VB vs → VB vt → XR (n + 2) (smL T L at_ r a w cs vs vt)
  | 0, a, w, cs, vs, vt, hw, p, bs, bt => XR_n
  | r + 1, a, w, cs, vs, vt, hw, p, bs, bt => by
    have fw := x_fw hw p bs bt (by omega)
    unfold smL
    rcases jn_c T L (skF T L a) with q | ⟨q, q2⟩
    · rw [if_pos q]; exact XR_s fw.1 fw.2
    · rw [if_neg (by omega)]
      have g := h (skF T L a + 1)
      generalize at_ (skF T L a + 1) = o at g ⊢
      obtain ⟨q5, o⟩ := o
      cases o with
      | none => exact XR_n
      | some cv =>
        obtain ⟨c, v⟩ := cv
        obtain ⟨g1, g2⟩ := g q5 c v rfl
        dsimp only
        by_cases z : jnF T L (skF T L a) = 2 ∨ jnF T L (skF T L a) = 3
        · rw [if_pos z]
          refine x_smL h hn r q5 _ _ _ v (by omega) ?_ fw.2 g2
          unfold lsF
          rw [if_neg (by omega)]
          exact PX_app (l1 := [fvF w vs vt]) (l2 := [v]) fw.1 g1 (Nat.le_refl _) (by show 1 + n ≤ n + 2; omega)
        · rw [if_neg z]
          refine x_smL h hn r q5 w _ vs _ hw ?_ bs (fun LT b => jv_b _ _ _)
          unfold lsF at p ⊢
          by_cases z2 : w = -1
          · rw [if_pos z2] at p ⊢
            have pa := PX_app (l1 := [vt]) (l2 := [v]) p g1 (Nat.le_refl _) (by show 1 + n ≤ n + 2; omega)
            exact PX_op (l := []) pa (fun LT b => Or.inl ⟨by omega, bt LT b, g2 LT b⟩) (fun LT b => op_jv (by omega) _ _) (by show 0 + 2 ≤ n + 2; omega)
          · rw [if_neg z2] at p ⊢
            have pa := PX_app (l1 := [vs, vt]) (l2 := [v]) p g1 (Nat.le_refl _) (by show 2 + n ≤ n + 2; omega)
            exact PX_op (l := [vs]) pa (fun LT b => Or.inl ⟨by omega, bt LT b, g2 LT b⟩) (fun LT b => op_jv (by omega) _ _) (by show 1 + 2 ≤ n + 2; omega)
theorem VB_0 : VB fun _ => 0 := fun LT _ => by show -1000000 ≤ (0 : Int) ∧ (0 : Int) ≤ 1000000; omega
theorem x_su {T : Nat → Int} {L n : Nat} {at_ : Nat → PR} (h : ∀ a, XR n (at_ a)) (hn : 1 ≤ n) (a : Nat) : XR (n + 2) (suF T L at_ a) := by
  unfold suF
  have g := h a
  generalize at_ a = o at g ⊢
  obtain ⟨q5, o⟩ := o
  cases o with
  | none => exact XR_n
  | some cv =>
    obtain ⟨c, v⟩ := cv
    obtain ⟨g1, g2⟩ := g q5 c v rfl
    exact x_smL h hn 241 q5 (-1) c (fun _ => 0) v (Or.inl rfl) (PX_mono (l := [v]) g1 (by omega)) VB_0 g2
theorem x_lvA (T : Nat → Int) (L : Nat) : ∀ (k a : Nat), XR (2 * k + 1) (lvA T L k a)
  | 0, a => x_at (fun a => XR_n) (by omega) a
  | k + 1, a => x_at (x_su (x_lvA T L k) (by omega)) (by omega) a
theorem x_lvS (T : Nat → Int) (L k a : Nat) : XR (2 * k + 3) (lvS T L k a) := x_su (x_lvA T L k) (by omega) a
theorem op_cv {s : Int} (h : s = 6 ∨ s = 7 ∨ s = 8) (x y : Int) : cvF s x y = opV s x y := by
  unfold opV
  rw [if_neg (by omega), if_pos (by omega)]
theorem x_cm {T : Nat → Int} {L n m : Nat} {sum : Nat → PR} (h : ∀ a, XR n (sum a)) {a : Nat} {c1 : List Int} {v1 : VF} (p : PX c1 [v1] m) (hm : n + 1 ≤ m) (h2 : 2 ≤ m) : XB m (cmF T L sum a c1 v1) := by
  unfold cmF
  rcases cg_c T L (skF T L a) with q | ⟨q, q2⟩
  · rw [if_pos q]; exact XB_n
  · rw [if_neg (by omega)]
    have g := h (skF T L a + 1)
    generalize sum (skF T L a + 1) = o at g ⊢
    obtain ⟨q5, o⟩ := o
    cases o with
    | none => exact XB_n
    | some cv =>
      obtain ⟨c, v⟩ := cv
      obtain ⟨g1, g2⟩ := g q5 c v rfl
      have pa := PX_app (l1 := [v1]) (l2 := [v]) p g1 (Nat.le_refl _) (by show 1 + n ≤ m; omega)
      exact XB_s (PX_op (l := []) pa (fun LT b => Or.inr (Or.inl q)) (fun LT b => op_cv q _ _) h2) (fun lt => cv_01 _ _ _)
theorem x_un {T : Nat → Int} {L n m : Nat} {ok : Bool} {subU subC sum : Nat → PR} (hU : ∀ a, XB m (subU a)) (hC : ∀ a, XB m (subC a)) (hS : ∀ a, XR n (sum a)) (hm : n + 1 ≤ m) (h2 : 2 ≤ m) (a : Nat) : XB m (unF T L ok subU subC sum a) := by
  unfold unF
  split
  · split
    · have g := hU (skF T L a + 1)
      generalize subU (skF T L a + 1) = o at g ⊢
      obtain ⟨q5, o⟩ := o
      unfold ntF
      cases o with
      | none => exact XB_n
      | some cv =>
        obtain ⟨c, v⟩ := cv
        obtain ⟨g1, g2⟩ := g q5 c v rfl
        exact XB_s (PX_not g1 g2 (by omega)) (fun lt => by have := g2 lt; show 1 - v lt = 0 ∨ 1 - v lt = 1; omega)
    · exact XB_n
  · split
    · split
      · exact xb_cls (hC _)
      · exact XB_n
    · have g := hS (skF T L a)
      generalize sum (skF T L a) = o at g ⊢
      obtain ⟨q5, o⟩ := o
      unfold c2F
      cases o with
      | none => exact XB_n
      | some cv =>
        obtain ⟨c, v⟩ := cv
        obtain ⟨g1, g2⟩ := g q5 c v rfl
        exact x_cm hS (PX_mono g1 (by omega)) hm h2
theorem x_cdL {T : Nat → Int} {L n : Nat} {un : Nat → PR} (h : ∀ a, XB n (un a)) (hn : 1 ≤ n) : ∀ (r a : Nat) (w : Bool) (cs : List Int) (vs vt : VF), PX cs (if w = true then [vs, vt] else [vt]) (n + 2) → V01 vs → V01 vt → XB (n + 2) (cdL T L un r a w cs vs vt)
  | 0, a, w, cs, vs, vt, p, bs, bt => XB_n
  | r + 1, a, w, cs, vs, vt, p, bs, bt => by
    have fw : PX (if w = true then cs ++ [10] else cs) [ovF w vs vt] (n + 2) ∧ V01 (ovF w vs vt) := by
      refine ⟨?_, ov_01 bs bt⟩
      unfold ovF
      by_cases q : w = true
      · rw [if_pos q] at p ⊢
        rw [if_pos q]
        exact PX_op (l := []) p (fun LT b => Or.inr (Or.inr ⟨Or.inr rfl, bs _, bt _⟩)) (fun LT b => rfl) (by show 0 + 2 ≤ n + 2; omega)
      · rw [if_neg q] at p ⊢
        rw [if_neg q]
        exact p
    unfold cdL
    by_cases z1 : sgF T L (skF T L a) 124
    · rw [if_pos z1]
      have g := h (skF T L a + 1)
      generalize un (skF T L a + 1) = o at g ⊢
      obtain ⟨q5, o⟩ := o
      cases o with
      | none => exact XB_n
      | some cv =>
        obtain ⟨c, v⟩ := cv
        obtain ⟨g1, g2⟩ := g q5 c v rfl
        refine x_cdL h hn r q5 true _ _ v ?_ fw.2 g2
        rw [if_pos rfl]
        exact PX_app (l1 := [ovF w vs vt]) (l2 := [v]) fw.1 g1 (Nat.le_refl _) (by show 1 + n ≤ n + 2; omega)
    · rw [if_neg z1]
      by_cases z2 : sgF T L (skF T L a) 38
      · rw [if_pos z2]
        have g := h (skF T L a + 1)
        generalize un (skF T L a + 1) = o at g ⊢
        obtain ⟨q5, o⟩ := o
        cases o with
        | none => exact XB_n
        | some cv =>
          obtain ⟨c, v⟩ := cv
          obtain ⟨g1, g2⟩ := g q5 c v rfl
          refine x_cdL h hn r q5 w _ vs _ ?_ bs (fun lt => by
            show iAnd (vt lt) (v lt) = 0 ∨ iAnd (vt lt) (v lt) = 1
            rw [an_01 (bt lt) (g2 lt)]; exact anV_01 _ _)
          by_cases q : w = true
          · rw [if_pos q] at p ⊢
            have pa := PX_app (l1 := [vs, vt]) (l2 := [v]) p g1 (Nat.le_refl _) (by show 2 + n ≤ n + 2; omega)
            exact PX_op (l := [vs]) pa (fun LT b => Or.inr (Or.inr ⟨Or.inl rfl, bt _, g2 _⟩)) (fun LT b => rfl) (by show 1 + 2 ≤ n + 2; omega)
          · rw [if_neg q] at p ⊢
            have pa := PX_app (l1 := [vt]) (l2 := [v]) p g1 (Nat.le_refl _) (by show 1 + n ≤ n + 2; omega)
            exact PX_op (l := []) pa (fun LT b => Or.inr (Or.inr ⟨Or.inl rfl, bt _, g2 _⟩)) (fun LT b => rfl) (by show 0 + 2 ≤ n + 2; omega)
      · rw [if_neg z2]; exact XB_s fw.1 fw.2
theorem x_cdG {T : Nat → Int} {L n : Nat} {un : Nat → PR} (h : ∀ a, XB n (un a)) (hn : 1 ≤ n) {o : PR} (g : XB n o) : XB (n + 2) (cdG T L un o) := by
  obtain ⟨q5, o⟩ := o
  unfold cdG
  cases o with
  | none => exact XB_n
  | some cv =>
    obtain ⟨c, v⟩ := cv
    obtain ⟨g1, g2⟩ := g q5 c v rfl
    exact x_cdL h hn 241 q5 false c (fun _ => 0) v (by rw [if_neg Bool.false_ne_true]; exact PX_mono g1 (by omega)) (fun _ => Or.inl rfl) g2
theorem XB_mono {n m : Nat} {o : PR} (h : XB n o) (e : n ≤ m) : XB m o := fun q c v z => ⟨PX_mono (h q c v z).1 e, (h q c v z).2⟩
theorem x_lvU (T : Nat → Int) (L : Nat) : ∀ (k a : Nat), XB (2 * k + 4) (lvU T L k a)
  | 0, a => x_un (fun a => XB_n) (fun a => XB_n) (x_lvS T L 0) (by omega) (by omega) a
  | k + 1, a => x_un (fun a => XB_mono (x_lvU T L k a) (by omega)) (fun a => x_cdG (x_lvU T L k) (by omega) (x_lvU T L k a)) (x_lvS T L (k + 1)) (by omega) (by omega) a
/-- a clause's codes do what they should -/
def XE (e : CE) : Prop := (∀ cc cv, e.1 = some (cc, cv) → PX cc [cv] 64 ∧ V01 cv) ∧ PX e.2.1 [e.2.2] 64
theorem x_cuT {T : Nat → Int} {L : Nat} {o : PR} (g : XB 64 o) (q : Nat) (e : CE) (h : cuT T L o = (q, some e)) : XE e := by
  obtain ⟨q5, o⟩ := o
  unfold cuT at h
  cases o with
  | none => cases h
  | some cv =>
    obtain ⟨c, v⟩ := cv
    dsimp only at h
    by_cases z : sgF T L (skF T L q5) 63
    · rw [if_pos z] at h
      have gs := x_lvS T L 6 (skF T L q5 + 1)
      generalize lvS T L 6 (skF T L q5 + 1) = o2 at gs h
      obtain ⟨q6, o2⟩ := o2
      cases o2 with
      | none => cases h
      | some cv2 =>
        obtain ⟨c2, v2⟩ := cv2
        cases h
        refine ⟨fun cc cv z => ?_, PX_mono (gs _ c2 v2 rfl).1 (by omega)⟩
        cases z
        exact g _ _ _ rfl
    · rw [if_neg z] at h; cases h
theorem x_cuF {T : Nat → Int} {L a q : Nat} {e : CE} (h : cuF T L a = (q, some e)) : XE e := by
  unfold cuF at h
  by_cases z1 : sgF T L (skF T L a) 121
  · rw [if_neg (fun z => z z1)] at h
    by_cases z2 : sgF T L (skF T L (skF T L a + 1)) 58
    · rw [if_neg (fun z => z z2)] at h
      by_cases z3 : sgF T L (skF T L (skF T L (skF T L a + 1) + 1)) 33 ∨ sgF T L (skF T L (skF T L (skF T L a + 1) + 1)) 40
      · rw [if_pos z3] at h
        exact x_cuT (XB_mono (x_cdG (x_lvU T L 6) (by omega) (x_lvU T L 6 _)) (by omega)) q e h
      · rw [if_neg z3] at h
        have gs := x_lvS T L 6 (skF T L (skF T L (skF T L a + 1) + 1))
        generalize lvS T L 6 (skF T L (skF T L (skF T L a + 1) + 1)) = o2 at gs h
        obtain ⟨q6, o2⟩ := o2
        cases o2 with
        | none => cases h
        | some cv2 =>
          obtain ⟨c2, v2⟩ := cv2
          have g := gs _ c2 v2 rfl
          dsimp only at h
          by_cases z4 : cgF T L (skF T L q6) = -1
          · rw [if_pos z4] at h
            cases h
            exact ⟨fun cc cv z => by (cases z), PX_mono g.1 (by omega)⟩
          · rw [if_neg z4] at h
            exact x_cuT (XB_mono (x_cdG (x_lvU T L 6) (by omega) (x_cm (n := 2 * 6 + 3) (x_lvS T L 6) (PX_mono g.1 (by omega)) (by omega) (by omega))) (by omega)) q e h
    · rw [if_pos z2] at h; cases h
  · rw [if_pos z1] at h; cases h
theorem x_lw {T : Nat → Int} {L : Nat} : ∀ (r a : Nat) (es : List CE), (lwF T L r a).2 = some es → ∀ e, e ∈ es → XE e
  | 0, a, es, h => by cases h
  | r + 1, a, es, h => by
    unfold lwF at h
    have g := fun q e => x_cuF (T := T) (L := L) (a := a) (q := q) (e := e)
    generalize cuF T L a = o at g h
    obtain ⟨q, o⟩ := o
    cases o with
    | none => cases h
    | some e0 =>
      have g0 := g q e0 rfl
      dsimp only at h
      by_cases z : skF T L q < L
      · rw [if_neg (fun y => y z)] at h
        by_cases z2 : T (skF T L q) = 59
        · rw [if_pos z2] at h
          have ih := x_lw (T := T) (L := L) r (skF T L q + 1)
          generalize lwF T L r (skF T L q + 1) = o2 at ih h
          obtain ⟨q2, o2⟩ := o2
          cases o2 with
          | none => cases h
          | some es0 =>
            have := Option.some.inj h
            rw [← this]
            intro e he
            rcases List.mem_cons.1 he with rfl | he
            · exact g0
            · exact ih es0 rfl e he
        · rw [if_neg z2] at h; cases h
      · rw [if_pos z] at h
        have := Option.some.inj h
        rw [← this]
        intro e he
        rcases List.mem_cons.1 he with rfl | he
        · exact g0
        · cases he
theorem ex_law (d : Nat) {r0 sz : Nat} {CD LT : Nat → Int} (r4 : r0 < 4) (s2 : sz ≤ 240) (b : b3 LT) : ∀ (es : List CE) (n : Nat) (h : MH) (z3 z4 : MV), (∀ e, e ∈ es → XE e) → EV r0 sz CD LT h → cat z3 = 1 → cat z4 = 1 → rdL CD n (lcC n es) → n + (lcC n es).length = sz →
    ∃ h2, Run (d + 2) 84 34 [vR 6, vR (25 + r0), .inl ((0 : Nat) : Int), .inl (n : Int), z3, z4] [] h = some (some (.inl (wvD es (lt6 LT) 0)), h2) ∧ ∀ a, a ≠ 30 → h2 a = h a
  | [], n, h, z3, z4, hx, ev, y3, y4, rd, hn => by
    have hn' : n = sz := hn
    have hd := q84_34 (d + 1) r0 r4 ((0 : Nat) : Int) (n : Int) z3 y3 z4 y4 h
    rw [ev.1, if_pos (by omega), show ((r0 : Nat) : Int).toNat = r0 by omega, ev.2.1, if_pos (by omega)] at hd
    exact ⟨h, hd, fun _ _ => rfl⟩
  | (none, (c, v)) :: es, n, h, z3, z4, hx, ev, y3, y4, rd, hn => by
    have x := hx _ (List.mem_cons_self ..)
    have el : lcC n ((none, (c, v)) :: es) = c ++ [13] ++ lcC (n + (ceC n (none, (c, v))).length) es := rfl
    rw [el, rdL_app, rdL_app] at rd
    rw [el, List.length_append, List.length_append] at hn
    have hn' : n + (c.length + 1 + (lcC (n + (ceC n (none, (c, v))).length) es).length) = sz := hn
    obtain ⟨h2, z5, z6, ⟨y5, y6⟩, u1, u2, u3, u4⟩ := x.2 d r0 sz CD LT n 0 h z3 z4 r4 s2 b ev y3 y4 rd.1.1 (by show n + c.length ≤ sz; omega) (by omega)
    have u4' : h2 30 0 = v (lt6 LT) := u4.1
    have sa := st_ans d (ev.mv r4 u2) r4 s2 (i := n + c.length) (by omega) y5 y6 rd.1.2.1
    refine ⟨h2, ?_, u2⟩
    rw [u1]
    have sa' : Run (d + 2) 84 34 [vR 6, vR (25 + r0), .inl ((0 + [v].length : Nat) : Int), .inl ((n + c.length : Nat) : Int), z5, z6] [] h2 = _ := sa
    rw [sa', u4']
    rfl
  | (some (cc, cv), (c, v)) :: es, n, h, z3, z4, hx, ev, y3, y4, rd, hn => by
    have x := hx _ (List.mem_cons_self ..)
    obtain ⟨xc, xb⟩ := x.1 cc cv rfl
    obtain ⟨J, hJ⟩ : ∃ J, J = n + cc.length + 1 + c.length + 1 := ⟨_, rfl⟩
    have el : lcC n ((some (cc, cv), (c, v)) :: es) = cc ++ [((n + cc.length + 1 + c.length + 1 : Nat) : Int) * 16 + 12] ++ c ++ [13] ++ lcC (n + (ceC n (some (cc, cv), (c, v))).length) es := rfl
    rw [ce_l2] at el
    rw [el, rdL_app, rdL_app, rdL_app, rdL_app, ← hJ] at rd
    obtain ⟨⟨⟨⟨r1, r2⟩, r3⟩, r4'⟩, r5⟩ := rd
    rw [el, List.length_append, List.length_append, List.length_append, List.length_append] at hn
    have hn' : n + (cc.length + 1 + c.length + 1 + (lcC (n + (cc.length + c.length + 2)) es).length) = sz := hn
    have l1 : (cc ++ [((J : Nat) : Int) * 16 + 12]).length = cc.length + 1 := by rw [List.length_append]; rfl
    have l2 : (cc ++ [((J : Nat) : Int) * 16 + 12] ++ c).length = cc.length + 1 + c.length := by rw [List.length_append, l1]
    have l3 : (cc ++ [((J : Nat) : Int) * 16 + 12] ++ c ++ [13]).length = cc.length + 1 + c.length + 1 := by rw [List.length_append, l2]; rfl
    rw [l1] at r3
    rw [l2] at r4'
    rw [l3] at r5
    obtain ⟨h2, z5, z6, ⟨y5, y6⟩, u1, u2, u3, u4⟩ := xc d r0 sz CD LT n 0 h z3 z4 r4 s2 b ev y3 y4 r1 (by omega) (by omega)
    have u4' : h2 30 0 = cv (lt6 LT) := u4.1
    have ev2 := ev.mv r4 u2
    have tt := st_tst d ev2 r4 s2 (i := n + cc.length) (J := J) (by omega) y5 y6 r2.1 (by omega) (by omega)
    have tt' : Run (d + 2) 84 34 [vR 6, vR (25 + r0), .inl ((0 + [cv].length : Nat) : Int), .inl ((n + cc.length : Nat) : Int), z5, z6] [] h2 = _ := tt
    have ew : wvD ((some (cc, cv), (c, v)) :: es) (lt6 LT) 0 = if cv (lt6 LT) = 0 then wvD es (lt6 LT) 0 else v (lt6 LT) := rfl
    rw [u1, tt', u4', ew]
    by_cases q : cv (lt6 LT) = 0
    · rw [if_neg (fun z => z q), if_pos q]
      obtain ⟨h3, w1, w2⟩ := ex_law d r4 s2 b es J h2 (.inl 12) (.inl (J : Int)) (fun e he => hx e (List.mem_cons_of_mem _ he)) ev2 rfl rfl (by
        rw [show n + (cc.length + 1 + c.length + 1) = J by omega, show n + (cc.length + c.length + 2) = J by omega] at r5
        exact r5) (by
        rw [show n + (cc.length + c.length + 2) = J by omega] at hn'
        omega)
      exact ⟨h3, w1, fun a ha => by rw [w2 a ha, u2 a ha]⟩
    · rw [if_pos q, if_neg q]
      obtain ⟨h3, z7, z8, ⟨y7, y8⟩, w1, w2, w3, w4⟩ := x.2 d r0 sz CD LT (n + cc.length + 1) 0 h2 (.inl 12) (.inl (J : Int)) r4 s2 b ev2 rfl rfl (by
        rw [show n + cc.length + 1 = n + (cc.length + 1) by omega]
        exact r3) (by show n + cc.length + 1 + c.length ≤ sz; omega) (by omega)
      have w4' : h3 30 0 = v (lt6 LT) := w4.1
      have sa := st_ans d (ev2.mv r4 w2) r4 s2 (i := n + cc.length + 1 + c.length) (by omega) y7 y8 (by
        rw [show n + cc.length + 1 + c.length = n + (cc.length + 1 + c.length) by omega]
        exact r4'.1)
      have sa' : Run (d + 2) 84 34 [vR 6, vR (25 + r0), .inl ((0 + [v].length : Nat) : Int), .inl ((n + cc.length + 1 + c.length : Nat) : Int), z7, z8] [] h3 = _ := sa
      refine ⟨h3, ?_, fun a ha => by rw [w2 a ha, u2 a ha]⟩
      rw [w1]
      rw [sa', w4']
theorem lawC_of {es : List CE} (hx : ∀ e, e ∈ es → XE e) {code : Nat → Int} (rd : rdL code 0 (lcC 0 es)) (l : (lcC 0 es).length ≤ 240) : LawC (esW es) code (((lcC 0 es).length : Nat) : Int) := by
  intro d hc r r4 h1 h2 h3 h4 h5
  have ev : EV r (lcC 0 es).length code (hc 23) hc := ⟨h1, h4, fun j hj => h3 j (by omega), fun j _ => rfl⟩
  obtain ⟨hc2, u1, u2⟩ := ex_law d r4 l (LT := hc 23) h5 es 0 hc vU vU hx ev rfl rfl rd (by omega)
  refine ⟨hc2, ?_, u2⟩
  rw [q84_0, h1, if_neg (by omega), if_pos h2, if_pos (by omega), show ((r : Nat) : Int).toNat = r by omega]
  exact u1
