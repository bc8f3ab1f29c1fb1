/-! what holds between class and reference at every call -/
/-- the places that matter from call to call (the others are written before they are read) -/
def relB (a j : Nat) : Bool := match a with
  | 0 => j == 13 || j == 14
  | 1 => j == 1
  | 2 => j == 3 || j == 4
  | 6 => j == 1 || j == 2
  | 7 => j == 1
  | 10 => j == 2 || j == 3
  | 11 => j == 0 || j == 2
  | 97 => j == 6 || j == 7 || j == 26 || j == 27 || j == 30 || j == 34 || j == 35 || j == 37 || j == 46 || j == 49 || j == 51
  | 3 => false
  | 4 => false
  | 5 => false
  | 8 => false
  | 9 => false
  | 12 => false
  | 13 => false
  | 14 => false
  | 19 => false
  | 20 => false
  | 21 => false
  | 22 => false
  | 23 => false
  | 30 => false
  | 37 => false
  | 40 => false
  | 41 => false
  | 42 => false
  | 43 => false
  | 44 => false
  | 45 => false
  | 47 => false
  | 93 => false
  | 94 => false
  | 101 => false
  | 103 => false
  | 105 => false
  | 107 => false
  | 111 => false
  | 113 => false
  | 114 => false
  | 116 => false
  | _ => decide (a < 120)
def res (h : MH) : MH := fun a j => if relB a j = true then h a j else 0
theorem res_up {h : MH} {a j : Nat} {v : Int} (e : relB a j = false) : res (up h a j v) = res h := by
  funext x y
  unfold res
  by_cases q : relB x y = true
  · rw [if_pos q, if_pos q]
    by_cases q1 : x = a
    · by_cases q2 : y = j
      · subst q1; subst q2; rw [e] at q; cases q
      · subst q1; exact up_i q2
    · exact up_a q1
  · rw [if_neg q, if_neg q]
theorem res_at {h : MH} {a j : Nat} (e : relB a j = true) : res h a j = h a j := if_pos e
theorem res_cpy {h : MH} {f : Nat → Int} {t sp dp n : Nat} (e : ∀ j, relB t j = false) : res (cpy h f t sp dp n) = res h := by
  funext x y
  unfold res
  by_cases q : relB x y = true
  · rw [if_pos q, if_pos q]
    by_cases q1 : x = t
    · subst q1; rw [e y] at q; cases q
    · rw [cpy_ne q1]
  · rw [if_neg q, if_neg q]
/-- the tape -/
def iTape (g : MH) : Prop := (0 ≤ g 1 1 ∧ g 1 1 ≤ 240) ∧ g 97 6 = g 1 1 ∧ ∀ i : Nat, (i : Int) < g 1 1 → g 98 i = g 15 i ∧ g 15 i ≠ 0 ∧ -128 ≤ g 15 i ∧ g 15 i ≤ 127
def iDamp (g : MH) : Prop := g 97 35 = g 0 14 ∧ 0 ≤ g 0 14 ∧ g 0 14 ≤ 9
/-- the league: f forts, c carriers -/
def lgOK (f c : Int) (ru fo ca : Nat → Int) : Prop := (2 ≤ f ∧ f ≤ 8) ∧ (1 ≤ c ∧ c ≤ 5) ∧ ((0 ≤ ru 0 ∧ ru 0 ≤ 9) ∧ (ru 1 = 0 ∨ ru 1 = 1) ∧ (0 ≤ ru 2 ∧ ru 2 ≤ 99) ∧ (1 ≤ ru 3 ∧ ru 3 ≤ 6)) ∧
  (∀ i : Nat, (i : Int) < f → (0 ≤ fo (3 * i) ∧ fo (3 * i) ≤ 40) ∧ (0 ≤ fo (3 * i + 1) ∧ fo (3 * i + 1) ≤ 9) ∧ (0 ≤ fo (3 * i + 2) ∧ fo (3 * i + 2) ≤ 9)) ∧
  (∀ i j : Nat, (i : Int) < f → (j : Int) < f → fo (3 * i) = fo (3 * j) → i = j) ∧
  (∀ i : Nat, (i : Int) < c → (1 ≤ ca (3 * i) ∧ ca (3 * i) ≤ 9) ∧ (0 ≤ ca (3 * i + 1) ∧ ca (3 * i + 1) ≤ 9) ∧ (0 ≤ ca (3 * i + 2) ∧ ca (3 * i + 2) < f))
def iLg (g : MH) : Prop := g 97 26 = g 2 3 ∧ g 97 27 = g 2 4 ∧
  ((g 2 3 = 0 ∧ g 2 4 = 0) ∨ lgOK (g 2 3) (g 2 4) (g 16) (g 17) (g 18)) ∧
  (∀ i, i < 4 → g 102 i = g 16 i) ∧ (∀ i : Nat, (i : Int) < 3 * g 2 3 → g 104 i = g 17 i) ∧ ∀ i : Nat, (i : Int) < 3 * g 2 4 → g 106 i = g 18 i
/-- a state: the class' row of 37, the reference's of 277 (the log apart) -/
def stR (c v : Nat → Int) : Prop := (∀ f, f < 8 → v f = c (21 + f) ∧ v (8 + f) = c (29 + f)) ∧ (∀ k, k < 5 → v (16 + 3 * k) = c (6 + k) ∧ v (17 + 3 * k) = c (11 + k) ∧ v (18 + 3 * k) = c (16 + k)) ∧
  (v 31 = c 0 ∧ v 32 = c 1 ∧ v 33 = c 2 ∧ v 34 = c 3 ∧ v 35 = c 4 ∧ v 36 = (if c 5 ≤ 60 then c 5 else 60))
/-- a state's numbers, in a league of f forts and k carriers; b: the most shots -/
def stOK (f k b : Int) (c : Nat → Int) : Prop := ((0 ≤ c 0 ∧ c 0 ≤ 99) ∧ (0 ≤ c 1 ∧ c 1 ≤ 9) ∧ (c 2 = 0 ∨ c 2 = 1) ∧ (0 ≤ c 3 ∧ c 3 ≤ 9) ∧ (0 ≤ c 4 ∧ c 4 ≤ 9999) ∧ (0 ≤ c 5 ∧ c 5 ≤ b)) ∧
  (∀ i : Nat, (i : Int) < k → (0 ≤ c (6 + i) ∧ c (6 + i) < f) ∧ (0 ≤ c (11 + i) ∧ c (11 + i) ≤ 99) ∧ (0 ≤ c (16 + i) ∧ c (16 + i) ≤ 2)) ∧
  (∀ i : Nat, k ≤ (i : Int) → i < 5 → c (6 + i) = 0 ∧ c (11 + i) = 0 ∧ c (16 + i) = 0) ∧
  (∀ i : Nat, (i : Int) < f → (0 ≤ c (21 + i) ∧ c (21 + i) ≤ 9) ∧ (0 ≤ c (29 + i) ∧ c (29 + i) ≤ 63)) ∧
  (∀ i : Nat, f ≤ (i : Int) → i < 8 → c (21 + i) = 0 ∧ c (29 + i) = 0)
/-- shots that were: L n w; the ring holds those of the last hundred below M; a row of the reference holds the last sixty of s shots -/
def rgR (L : Nat → Nat → Int) (M s : Int) (sh : Nat → Int) : Prop := s ≤ M ∧ ∀ n : Nat, (n : Int) < s → M ≤ n + 100 → ∀ w, w < 4 → sh (4 * (n % 100) + w) = L n w
def lgR (L : Nat → Nat → Int) (s : Int) (v : Nat → Int) : Prop := ∀ n : Nat, (n : Int) < s → s ≤ n + 60 → ∀ w, w < 4 → v (37 + 4 * (n - (s - 60).toNat) + w) = L n w
/-- the row of the i-th latest of the history -/
def hRow (g : MH) (i : Nat) : Nat → Int := g (51 + (g 11 2 + 39 - i).toNat % 40)
def uRow (g : MH) (i : Nat) : Nat → Int := fun j => g 112 (277 * (g 97 37 - 1 - i).toNat + j)
/-- the state now, and the history -/
def iNow (b : Int) (g : MH) : Prop := ∃ (L : Nat → Nat → Int) (M : Int),
  (stR (g 91) (g 110) ∧ stOK (g 2 3) (g 2 4) b (g 91) ∧ lgR L (g 91 5) (g 110) ∧ rgR L M (g 91 5) (g 92)) ∧
  ((0 ≤ g 11 0 ∧ g 11 0 ≤ 40) ∧ (0 ≤ g 11 2 ∧ g 11 2 < 40) ∧ g 97 37 = g 11 0) ∧
  (∀ i : Nat, (i : Int) < g 11 0 → stR (hRow g i) (uRow g i) ∧ stOK (g 2 3) (g 2 4) b (hRow g i) ∧ lgR L (hRow g i 5) (uRow g i) ∧ hRow g i 5 ≤ g 91 5 ∧ g 91 5 ≤ hRow g i 5 + i + 1 ∧ M ≤ hRow g i 5 + 40 ∧ ∀ j : Nat, j < i → hRow g i 5 ≤ hRow g j 5 ∧ hRow g j 5 ≤ hRow g i 5 + (i - j)) ∧
  M ≤ g 91 5 + 40
def iImg (b : Int) (g : MH) : Prop := g 97 51 = g 0 13 ∧ (g 0 13 = 0 ∨ g 0 13 = 1) ∧ (g 0 13 = 1 → 0 < g 2 3 ∧ ∃ (L : Nat → Nat → Int) (M : Int),
  stR (g 95) (g 119) ∧ stOK (g 2 3) (g 2 4) b (g 95) ∧ lgR L (g 95 5) (g 119) ∧ rgR L M (g 95 5) (g 96) ∧ M ≤ g 95 5 + 40)
/-- what was seen, and faces -/
def iGue (g : MH) : Prop := (g 97 46 = g 10 2 ∧ 0 ≤ g 10 2 ∧ g 10 2 ≤ 10) ∧ (g 97 49 = g 10 3 ∧ 0 ≤ g 10 3 ∧ g 10 3 ≤ 12) ∧
  (∀ i : Nat, (i : Int) < g 10 2 → (∀ w, w < 5 → g 115 (5 * i + w) = g 46 (5 * i + w)) ∧ (0 ≤ g 46 (5 * i) ∧ g 46 (5 * i) < g 2 4) ∧ (0 ≤ g 46 (5 * i + 1) ∧ g 46 (5 * i + 1) < g 2 3) ∧ (1 ≤ g 46 (5 * i + 2) ∧ g 46 (5 * i + 2) ≤ 20) ∧ (g 46 (5 * i + 3) = 0 ∨ g 46 (5 * i + 3) = 1) ∧ (-60 ≤ g 46 (5 * i + 4) ∧ g 46 (5 * i + 4) ≤ 100)) ∧
  (∀ i : Nat, (i : Int) < g 10 3 → g 117 i = g 48 i ∧ g 118 i = g 49 i ∧ (0 ≤ g 48 i ∧ g 48 i < g 2 3) ∧ (g 49 i = 0 ∨ g 49 i = 1))
/-- a plan's step as it was read -/
def plOK (r : Nat → Int) : Prop := (0 ≤ r 0 ∧ r 0 ≤ 3) ∧ (0 ≤ r 1 ∧ r 1 ≤ 9) ∧ (r 0 = 1 → r 2 = -1) ∧ (r 0 = 3 → 0 ≤ r 2 ∧ r 2 ≤ 9) ∧ (r 0 = 0 ∨ r 0 = 2 → r 2 = 0 ∨ r 2 = 1) ∧ (r 0 = 0 → 0 ≤ r 3 ∧ r 3 ≤ 99) ∧ (r 0 ≠ 0 → r 3 = -1)
def iPl (g : MH) : Prop := (g 97 30 = g 7 1 ∧ 0 ≤ g 7 1 ∧ g 7 1 ≤ 4) ∧ ∀ k : Nat, (k : Int) < g 7 1 → g 109 k = g 31 k ∧ (1 ≤ g 31 k ∧ g 31 k ≤ 16) ∧ ∀ i : Nat, (i : Int) < g 31 k → (∀ w, w < 4 → g 108 (64 * k + 4 * i + w) = g (33 + k) (4 * i + w)) ∧ plOK (fun w => g (33 + k) (4 * i + w))
/-- the laws: how many, which holds (what they are worth: later) -/
def iLw (g : MH) : Prop := g 97 7 = g 6 1 ∧ (0 ≤ g 6 1 ∧ g 6 1 ≤ 4) ∧ g 97 34 = g 6 2 ∧ (-1 ≤ g 6 2 ∧ g 6 2 < g 6 1)
/-- all but the laws' worth and the aims that are remembered -/
def Inv0 (b : Int) (h : MH) : Prop := iTape (res h) ∧ iDamp (res h) ∧ iLg (res h) ∧ iNow b (res h) ∧ iImg b (res h) ∧ iGue (res h) ∧ iPl (res h) ∧ iLw (res h)
theorem Inv0_res {b : Int} {h h2 : MH} (e : res h2 = res h) (i : Inv0 b h) : Inv0 b h2 := by
  unfold Inv0 at i ⊢
  rw [e]
  exact i
