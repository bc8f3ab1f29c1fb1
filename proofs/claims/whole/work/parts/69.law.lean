/-! laws: their texts read purely, code and worth -/
abbrev VF : Type := (Nat → Int) → Int
abbrev PR : Type := Nat × Option (List Int × VF)
def cM (v : Int) : Int := wI (mx (-1000000) (mn 1000000 v))
/-- two numbers joined -/
def jvF (s x y : Int) : Int := if s = 2 then cM (wL (x + y)) else if s = 3 then cM (wL (x - y)) else if s = 4 then cM (wL (x * y)) else if y = 0 then cM 0 else cM (wL (x.tdiv y))
def cvF (s x y : Int) : Int := if s = 6 then bi (x = y) else if s = 7 then bi (x < y) else bi (y < x)
def jnF (T : Nat → Int) (L p : Nat) : Int := if sgF T L p 42 then 4 else if sgF T L p 43 then 2 else if sgF T L p 45 then 3 else if sgF T L p 47 then 5 else -1
def cgF (T : Nat → Int) (L p : Nat) : Int := if sgF T L p 60 then 7 else if sgF T L p 61 then 6 else if sgF T L p 62 then 8 else -1
def ltF (T : Nat → Int) (L p : Nat) : Int := fiN 132 6 (lkG T L p) 6 0
def nuF (o : Nat × Option Int) : PR := match o with
  | (q, none) => (q, none)
  | (q, some v) => (q, some ([v * 16], fun _ => v))
def clsF (T : Nat → Int) (L : Nat) (s : Int) (o : PR) : PR := match o with
  | (q, none) => (q, none)
  | (q, some r) => if sgF T L (skF T L q) s then (skF T L q + 1, some r) else (skF T L q, none)
def atF (T : Nat → Int) (L : Nat) (ok : Bool) (sub : Nat → PR) (a : Nat) : PR :=
  if sgF T L (skF T L a) 91 then (if ok = true then clsF T L 93 (sub (skF T L a + 1)) else (skF T L a, none))
  else if ¬ ltF T L (skF T L a) = -1 then (skF T L a + 1, some ([ltF T L (skF T L a) * 16 + 1], fun lt => lt (ltF T L (skF T L a)).toNat))
  else nuF (nmF T L 4 (skF T L a) 0 false)
def fwF (w : Int) (cs : List Int) : List Int := if w = -1 then cs else cs ++ [w]
def fvF (w : Int) (vs vt : VF) : VF := if w = -1 then vt else fun lt => jvF w (vs lt) (vt lt)
def smL (T : Nat → Int) (L : Nat) (at_ : Nat → PR) : Nat → Nat → Int → List Int → VF → VF → PR
  | 0, a, _, _, _, _ => (a, none)
  | r + 1, a, w, cs, vs, vt => if jnF T L (skF T L a) = -1 then (skF T L a, some (fwF w cs, fvF w vs vt)) else
    match at_ (skF T L a + 1) with
    | (q, none) => (q, none)
    | (q, some (c, v)) => if jnF T L (skF T L a) = 2 ∨ jnF T L (skF T L a) = 3 then smL T L at_ r q (jnF T L (skF T L a)) (fwF w cs ++ c) (fvF w vs vt) v
      else smL T L at_ r q w (cs ++ c ++ [jnF T L (skF T L a)]) vs (fun lt => jvF (jnF T L (skF T L a)) (vt lt) (v lt))
def suF (T : Nat → Int) (L : Nat) (at_ : Nat → PR) (a : Nat) : PR := match at_ a with
  | (q, none) => (q, none)
  | (q, some (c, v)) => smL T L at_ 241 q (-1) c (fun _ => 0) v
def lvA (T : Nat → Int) (L : Nat) : Nat → Nat → PR
  | 0 => atF T L false fun a => (a, none)
  | k + 1 => atF T L true fun a => suF T L (lvA T L k) a
/-- a sum with k levels left -/
def lvS (T : Nat → Int) (L k : Nat) : Nat → PR := suF T L (lvA T L k)
def cmF (T : Nat → Int) (L : Nat) (sum : Nat → PR) (a : Nat) (c1 : List Int) (v1 : VF) : PR := if cgF T L (skF T L a) = -1 then (skF T L a, none) else
  match sum (skF T L a + 1) with
  | (q, none) => (q, none)
  | (q, some (c, v)) => (q, some (c1 ++ c ++ [cgF T L (skF T L a)], fun lt => cvF (cgF T L (skF T L a)) (v1 lt) (v lt)))
def ntF (o : PR) : PR := match o with
  | (q, none) => (q, none)
  | (q, some (c, v)) => (q, some (c ++ [11], fun lt => 1 - v lt))
def cdL (T : Nat → Int) (L : Nat) (un : Nat → PR) : Nat → Nat → Bool → List Int → VF → VF → PR
  | 0, a, _, _, _, _ => (a, none)
  | r + 1, a, w, cs, vs, vt => if sgF T L (skF T L a) 124 then
      (match un (skF T L a + 1) with
      | (q, none) => (q, none)
      | (q, some (c, v)) => cdL T L un r q true ((if w = true then cs ++ [10] else cs) ++ c) (if w = true then fun lt => iOr (vs lt) (vt lt) else vt) v)
    else if sgF T L (skF T L a) 38 then
      (match un (skF T L a + 1) with
      | (q, none) => (q, none)
      | (q, some (c, v)) => cdL T L un r q w (cs ++ c ++ [9]) vs (fun lt => iAnd (vt lt) (v lt)))
    else (skF T L a, some (if w = true then cs ++ [10] else cs, if w = true then fun lt => iOr (vs lt) (vt lt) else vt))
def cdG (T : Nat → Int) (L : Nat) (un : Nat → PR) (o : PR) : PR := match o with
  | (q, none) => (q, none)
  | (q, some (c, v)) => cdL T L un 241 q false c (fun _ => 0) v
def c2F (T : Nat → Int) (L : Nat) (sum : Nat → PR) (o : PR) : PR := match o with
  | (q, none) => (q, none)
  | (q, some (c, v)) => cmF T L sum q c v
def unF (T : Nat → Int) (L : Nat) (ok : Bool) (subU subC sum : Nat → PR) (a : Nat) : PR :=
  if sgF T L (skF T L a) 33 then (if ok = true then ntF (subU (skF T L a + 1)) else (skF T L a, none))
  else if sgF T L (skF T L a) 40 then (if ok = true then clsF T L 41 (subC (skF T L a + 1)) else (skF T L a, none))
  else c2F T L sum (sum (skF T L a))
def lvU (T : Nat → Int) (L : Nat) : Nat → Nat → PR
  | 0 => unF T L false (fun a => (a, none)) (fun a => (a, none)) (lvS T L 0)
  | k + 1 => unF T L true (lvU T L k) (fun a => cdG T L (lvU T L k) (lvU T L k a)) (lvS T L (k + 1))
/-- a condition with k levels left -/
def lvC (T : Nat → Int) (L k a : Nat) : PR := cdG T L (lvU T L k) (lvU T L k a)
abbrev CE : Type := Option (List Int × VF) × (List Int × VF)
def cuT (T : Nat → Int) (L : Nat) (o : PR) : Nat × Option CE := match o with
  | (q, none) => (q, none)
  | (q, some e) => if sgF T L (skF T L q) 63 then
      (match lvS T L 6 (skF T L q + 1) with
      | (q2, none) => (q2, none)
      | (q2, some r) => (q2, some (some e, r)))
    else (skF T L q, none)
def cuF (T : Nat → Int) (L a : Nat) : Nat × Option CE :=
  if ¬ sgF T L (skF T L a) 121 then (skF T L a, none)
  else if ¬ sgF T L (skF T L (skF T L a + 1)) 58 then (skF T L (skF T L a + 1), none)
  else if sgF T L (skF T L (skF T L (skF T L a + 1) + 1)) 33 ∨ sgF T L (skF T L (skF T L (skF T L a + 1) + 1)) 40 then cuT T L (lvC T L 6 (skF T L (skF T L (skF T L a + 1) + 1)))
  else match lvS T L 6 (skF T L (skF T L (skF T L a + 1) + 1)) with
    | (q, none) => (q, none)
    | (q, some (c, v)) => if cgF T L (skF T L q) = -1 then (skF T L q, some (none, (c, v))) else cuT T L (cdG T L (lvU T L 6) (cmF T L (lvS T L 6) (skF T L q) c v))
/-- a clause's code at n -/
def ceC (n : Nat) (e : CE) : List Int := match e with
  | (none, (c, _)) => c ++ [13]
  | (some (cc, _), (c, _)) => cc ++ [((n + cc.length + 1 + c.length + 1 : Nat) : Int) * 16 + 12] ++ c ++ [13]
def lwF (T : Nat → Int) (L : Nat) : Nat → Nat → Nat × Option (List CE)
  | 0, a => (a, none)
  | r + 1, a => match cuF T L a with
    | (q, none) => (q, none)
    | (q, some e) => if ¬ skF T L q < L then (skF T L q, some [e]) else if T (skF T L q) = 59 then
        (match lwF T L r (skF T L q + 1) with
        | (q2, none) => (q2, none)
        | (q2, some es) => (q2, some (e :: es)))
      else (skF T L q, none)
/-- what a law is worth -/
def wvF : List CE → VF
  | [] => fun _ => 0
  | (none, (_, v)) :: _ => fun lt => v lt
  | (some (_, cv), (_, v)) :: es => fun lt => if cv lt = 0 then wvF es lt else v lt
/-! how far they go -/
def PL (L : Nat) (p : Nat → PR) : Prop := ∀ a, a ≤ L → a ≤ (p a).1 ∧ (p a).1 ≤ L ∧ ∀ c v, (p a).2 = some (c, v) → a + c.length ≤ (p a).1 ∧ 1 ≤ c.length
def PO (L a : Nat) (o : PR) : Prop := a ≤ o.1 ∧ o.1 ≤ L ∧ ∀ c v, o.2 = some (c, v) → a + c.length ≤ o.1 ∧ 1 ≤ c.length
theorem PO_n {L a q : Nat} (h1 : a ≤ q) (h2 : q ≤ L) : PO L a (q, none) := ⟨h1, h2, fun c v h => by cases h⟩
theorem PO_s {L a q : Nat} {c : List Int} {v : VF} (h1 : a + c.length ≤ q) (h2 : q ≤ L) (h3 : 1 ≤ c.length) : PO L a (q, some (c, v)) := ⟨by show a ≤ q; omega, h2, fun c' v' h => by
  have h' : (c, v) = (c', v') := Option.some.inj h
  have e : c = c' := congrArg Prod.fst h'
  rw [← e]; exact ⟨h1, h3⟩⟩
theorem PO_le {L a b : Nat} {o : PR} (h : PO L b o) (hb : a ≤ b) : PO L a o := ⟨by have := h.1; omega, h.2.1, fun c v e => by have := h.2.2 c v e; exact ⟨by omega, this.2⟩⟩
theorem cls_P {T : Nat → Int} {L a : Nat} {s : Int} {o : PR} (h : PO L a o) : PO L a (clsF T L s o) := by
  obtain ⟨q, o⟩ := o
  obtain ⟨h1, h2, h3⟩ := h
  have l1 := sk_le T L q
  have l2 : skF T L q ≤ L := sk_L h2
  have h1' : a ≤ q := h1
  unfold clsF
  cases o with
  | none => exact PO_n h1 h2
  | some r =>
    obtain ⟨c, v⟩ := r
    have := h3 c v rfl
    have t1 : a + c.length ≤ q := this.1
    dsimp only
    by_cases z : sgF T L (skF T L q) s
    · rw [if_pos z]; exact PO_s (by omega) z.1 this.2
    · rw [if_neg z]; exact PO_n (by omega) l2
theorem at_P {T : Nat → Int} {L : Nat} {ok : Bool} {sub : Nat → PR} (h : PL L sub) : PL L (atF T L ok sub) := by
  intro a ha
  have l1 := sk_le T L a
  have l2 := sk_L (T := T) ha
  show PO L a (atF T L ok sub a)
  unfold atF
  by_cases z1 : sgF T L (skF T L a) 91
  · rw [if_pos z1]
    by_cases z2 : ok = true
    · rw [if_pos z2]; exact cls_P (PO_le (h _ z1.1) (by omega))
    · rw [if_neg z2]; exact PO_n l1 l2
  · rw [if_neg z1]
    by_cases z2 : ltF T L (skF T L a) = -1
    · rw [if_neg (fun z => z z2)]
      have n1 := nm_L (T := T) 4 (skF T L a) 0 false l2
      have n2 := nm_p (T := T) (L := L) 4 (skF T L a) 0 false
      generalize nmF T L 4 (skF T L a) 0 false = o at n1 n2 ⊢
      obtain ⟨q, o⟩ := o
      have n1' : skF T L a ≤ q := n1.1
      unfold nuF
      cases o with
      | none => exact PO_n (by omega) n1.2
      | some v =>
        rcases n2 v rfl with z | z
        · cases z
        · have z' : skF T L a < q := z
          exact PO_s (by show a + 1 ≤ q; omega) n1.2 (by show 1 ≤ 1; omega)
    · rw [if_pos z2]
      have pl : skF T L a < L := by
        apply Classical.byContradiction
        intro z
        apply z2
        have : lkG T L (skF T L a) = -1 := by unfold lkG; rw [if_neg z]
        unfold ltF
        rw [this]
        decide +kernel
      exact PO_s (by show a + 1 ≤ skF T L a + 1; omega) pl (by show 1 ≤ 1; omega)
theorem fw_len (w : Int) (cs : List Int) : (fwF w cs).length = cs.length + if w = -1 then 0 else 1 := by
  unfold fwF
  by_cases q : w = -1
  · rw [if_pos q, if_pos q]; rfl
  · rw [if_neg q, if_neg q, List.length_append]; rfl
theorem jn_c (T : Nat → Int) (L p : Nat) : jnF T L p = -1 ∨ ((jnF T L p = 2 ∨ jnF T L p = 3 ∨ jnF T L p = 4 ∨ jnF T L p = 5) ∧ p < L) := by
  unfold jnF
  by_cases q1 : sgF T L p 42
  · rw [if_pos q1]; exact Or.inr ⟨by omega, q1.1⟩
  · rw [if_neg q1]
    by_cases q2 : sgF T L p 43
    · rw [if_pos q2]; exact Or.inr ⟨by omega, q2.1⟩
    · rw [if_neg q2]
      by_cases q3 : sgF T L p 45
      · rw [if_pos q3]; exact Or.inr ⟨by omega, q3.1⟩
      · rw [if_neg q3]
        by_cases q4 : sgF T L p 47
        · rw [if_pos q4]; exact Or.inr ⟨by omega, q4.1⟩
        · rw [if_neg q4]; exact Or.inl rfl
theorem cg_c (T : Nat → Int) (L p : Nat) : cgF T L p = -1 ∨ ((cgF T L p = 6 ∨ cgF T L p = 7 ∨ cgF T L p = 8) ∧ p < L) := by
  unfold cgF
  by_cases q1 : sgF T L p 60
  · rw [if_pos q1]; exact Or.inr ⟨by omega, q1.1⟩
  · rw [if_neg q1]
    by_cases q2 : sgF T L p 61
    · rw [if_pos q2]; exact Or.inr ⟨by omega, q2.1⟩
    · rw [if_neg q2]
      by_cases q3 : sgF T L p 62
      · rw [if_pos q3]; exact Or.inr ⟨by omega, q3.1⟩
      · rw [if_neg q3]; exact Or.inl rfl
theorem sm_P {T : Nat → Int} {L : Nat} {at_ : Nat → PR} (h : PL L at_) : ∀ (r a b : Nat) (w : Int) (cs : List Int) (vs vt : VF), a ≤ L → b + (fwF w cs).length ≤ a → b ≤ a → 1 ≤ cs.length → PO L b (smL T L at_ r a w cs vs vt)
  | 0, a, b, w, cs, vs, vt, ha, _, hb, _ => PO_n hb ha
  | r + 1, a, b, w, cs, vs, vt, ha, hl, hb, hc => by
    have l1 := sk_le T L a
    have l2 := sk_L (T := T) ha
    have fl := fw_len w cs
    unfold smL
    rcases jn_c T L (skF T L a) with q | ⟨q, q2⟩
    · rw [if_pos q]
      exact PO_s (by omega) l2 (by omega)
    · rw [if_neg (by omega)]
      have ha2 := h (skF T L a + 1) q2
      generalize at_ (skF T L a + 1) = o at ha2 ⊢
      obtain ⟨q3, o⟩ := o
      have g1 : skF T L a + 1 ≤ q3 := ha2.1
      have g2 : q3 ≤ L := ha2.2.1
      cases o with
      | none => exact PO_n (by omega) g2
      | some cv =>
        obtain ⟨c, v⟩ := cv
        have g3 : skF T L a + 1 + c.length ≤ q3 := (ha2.2.2 c v rfl).1
        dsimp only
        by_cases z : jnF T L (skF T L a) = 2 ∨ jnF T L (skF T L a) = 3
        · rw [if_pos z]
          have e1 := fw_len (jnF T L (skF T L a)) (fwF w cs ++ c)
          rw [List.length_append, if_neg (by omega)] at e1
          exact sm_P h r q3 b _ _ _ _ g2 (by omega) (by omega) (by rw [List.length_append]; omega)
        · rw [if_neg z]
          have e1 := fw_len w (cs ++ c ++ [jnF T L (skF T L a)])
          have e2 : (cs ++ c ++ [jnF T L (skF T L a)]).length = cs.length + c.length + 1 := by rw [List.length_append, List.length_append]; rfl
          rw [e2] at e1
          exact sm_P h r q3 b _ _ _ _ g2 (by omega) (by omega) (by rw [e2]; omega)
theorem smF_P {T : Nat → Int} {L : Nat} {at_ : Nat → PR} (h : PL L at_) : PL L (suF T L at_) := by
  intro a ha
  have ha2 := h a ha
  show PO L a (suF T L at_ a)
  unfold suF
  generalize at_ a = o at ha2 ⊢
  obtain ⟨q3, o⟩ := o
  cases o with
  | none => exact PO_n ha2.1 ha2.2.1
  | some cv =>
    obtain ⟨c, v⟩ := cv
    have g := ha2.2.2 c v rfl
    exact sm_P h 241 q3 a (-1) c _ _ ha2.2.1 g.1 ha2.1 g.2
theorem no_P (L : Nat) : PL L fun a => (a, none) := fun a ha => PO_n (Nat.le_refl a) ha
theorem lvA_P (T : Nat → Int) (L : Nat) : ∀ k, PL L (lvA T L k)
  | 0 => at_P (no_P L)
  | k + 1 => at_P (smF_P (lvA_P T L k))
theorem lvS_P (T : Nat → Int) (L k : Nat) : PL L (lvS T L k) := smF_P (lvA_P T L k)
theorem cm_P {T : Nat → Int} {L : Nat} {sum : Nat → PR} (h : PL L sum) {a b : Nat} {c1 : List Int} {v1 : VF} (ha : a ≤ L) (hb : b + c1.length ≤ a) : PO L b (cmF T L sum a c1 v1) := by
  have l1 := sk_le T L a
  have l2 := sk_L (T := T) ha
  unfold cmF
  rcases cg_c T L (skF T L a) with q | ⟨q, q2⟩
  · rw [if_pos q]; exact PO_n (by omega) l2
  · rw [if_neg (by omega)]
    have ha2 := h (skF T L a + 1) q2
    generalize sum (skF T L a + 1) = o at ha2 ⊢
    obtain ⟨q3, o⟩ := o
    have g1 : skF T L a + 1 ≤ q3 := ha2.1
    cases o with
    | none => exact PO_n (by omega) ha2.2.1
    | some cv =>
      obtain ⟨c, v⟩ := cv
      have g3 : skF T L a + 1 + c.length ≤ q3 := (ha2.2.2 c v rfl).1
      have e2 : (c1 ++ c ++ [cgF T L (skF T L a)]).length = c1.length + c.length + 1 := by rw [List.length_append, List.length_append]; rfl
      exact PO_s (by rw [e2]; omega) ha2.2.1 (by rw [e2]; omega)
theorem nt_P {L a : Nat} {o : PR} (h : PO L (a + 1) o) : PO L a (ntF o) := by
  obtain ⟨q, o⟩ := o
  have h1 : a + 1 ≤ q := h.1
  unfold ntF
  cases o with
  | none => exact PO_n (by omega) h.2.1
  | some cv =>
    obtain ⟨c, v⟩ := cv
    have g3 : a + 1 + c.length ≤ q := (h.2.2 c v rfl).1
    have e2 : (c ++ [(11 : Int)]).length = c.length + 1 := by rw [List.length_append]; rfl
    exact PO_s (by rw [e2]; omega) h.2.1 (by rw [e2]; omega)
theorem un_P {T : Nat → Int} {L : Nat} {ok : Bool} {subU subC sum : Nat → PR} (hu : PL L subU) (hc : PL L subC) (hs : PL L sum) : PL L (unF T L ok subU subC sum) := by
  intro a ha
  have l1 := sk_le T L a
  have l2 := sk_L (T := T) ha
  show PO L a (unF T L ok subU subC sum a)
  unfold unF
  by_cases z1 : sgF T L (skF T L a) 33
  · rw [if_pos z1]
    by_cases z2 : ok = true
    · rw [if_pos z2]; exact PO_le (nt_P (hu _ z1.1)) l1
    · rw [if_neg z2]; exact PO_n l1 l2
  · rw [if_neg z1]
    by_cases z3 : sgF T L (skF T L a) 40
    · rw [if_pos z3]
      by_cases z2 : ok = true
      · rw [if_pos z2]; exact cls_P (PO_le (hc _ z3.1) (by omega))
      · rw [if_neg z2]; exact PO_n l1 l2
    · rw [if_neg z3]
      have g := hs _ l2
      generalize sum (skF T L a) = o at g ⊢
      obtain ⟨q, o⟩ := o
      have g1 : skF T L a ≤ q := g.1
      unfold c2F
      cases o with
      | none => exact PO_n (by omega) g.2.1
      | some cv =>
        obtain ⟨c, v⟩ := cv
        have g3 : skF T L a + c.length ≤ q := (g.2.2 c v rfl).1
        exact cm_P hs g.2.1 (by omega)
theorem cw_len (w : Bool) (cs : List Int) : (if w = true then cs ++ [10] else cs).length = cs.length + if w = true then 1 else 0 := by
  by_cases q : w = true
  · rw [if_pos q, if_pos q, List.length_append]; rfl
  · rw [if_neg q, if_neg q]; rfl
theorem cd_P {T : Nat → Int} {L : Nat} {un : Nat → PR} (h : PL L un) : ∀ (r a b : Nat) (w : Bool) (cs : List Int) (vs vt : VF), a ≤ L → b + (cs.length + if w = true then 1 else 0) ≤ a → b ≤ a → 1 ≤ cs.length → PO L b (cdL T L un r a w cs vs vt)
  | 0, a, b, w, cs, vs, vt, ha, _, hb, _ => PO_n hb ha
  | r + 1, a, b, w, cs, vs, vt, ha, hl, hb, hc => by
    have l1 := sk_le T L a
    have l2 := sk_L (T := T) ha
    have fl := cw_len w cs
    unfold cdL
    by_cases z1 : sgF T L (skF T L a) 124
    · rw [if_pos z1]
      have ha2 := h (skF T L a + 1) z1.1
      generalize un (skF T L a + 1) = o at ha2 ⊢
      obtain ⟨q3, o⟩ := o
      have g1 : skF T L a + 1 ≤ q3 := ha2.1
      cases o with
      | none => exact PO_n (by omega) ha2.2.1
      | some cv =>
        obtain ⟨c, v⟩ := cv
        have g3 : skF T L a + 1 + c.length ≤ q3 := (ha2.2.2 c v rfl).1
        exact cd_P h r q3 b _ _ _ _ ha2.2.1 (by rw [List.length_append, if_pos rfl]; omega) (by omega) (by rw [List.length_append]; omega)
    · rw [if_neg z1]
      by_cases z2 : sgF T L (skF T L a) 38
      · rw [if_pos z2]
        have ha2 := h (skF T L a + 1) z2.1
        generalize un (skF T L a + 1) = o at ha2 ⊢
        obtain ⟨q3, o⟩ := o
        have g1 : skF T L a + 1 ≤ q3 := ha2.1
        cases o with
        | none => exact PO_n (by omega) ha2.2.1
        | some cv =>
          obtain ⟨c, v⟩ := cv
          have g3 : skF T L a + 1 + c.length ≤ q3 := (ha2.2.2 c v rfl).1
          have e2 : (cs ++ c ++ [(9 : Int)]).length = cs.length + c.length + 1 := by rw [List.length_append, List.length_append]; rfl
          exact cd_P h r q3 b _ _ _ _ ha2.2.1 (by rw [e2]; omega) (by omega) (by rw [e2]; omega)
      · rw [if_neg z2]
        exact PO_s (by omega) l2 (by omega)
theorem cdG_P {T : Nat → Int} {L a : Nat} {un : Nat → PR} (h : PL L un) {o : PR} (g : PO L a o) : PO L a (cdG T L un o) := by
  obtain ⟨q, o⟩ := o
  unfold cdG
  cases o with
  | none => exact g
  | some cv =>
    obtain ⟨c, v⟩ := cv
    have g3 := g.2.2 c v rfl
    exact cd_P h 241 q a false c _ _ g.2.1 (by have := g3.1; exact this) g.1 g3.2
theorem lvU_P (T : Nat → Int) (L : Nat) : ∀ k, PL L (lvU T L k)
  | 0 => un_P (no_P L) (no_P L) (lvS_P T L 0)
  | k + 1 => un_P (lvU_P T L k) (fun a ha => cdG_P (lvU_P T L k) (lvU_P T L k a ha)) (lvS_P T L (k + 1))
theorem lvC_P (T : Nat → Int) (L k : Nat) : PL L (lvC T L k) := fun a ha => cdG_P (lvU_P T L k) (lvU_P T L k a ha)
