/-! the small machine without fuel, and its equations -/
set_option maxRecDepth 100000 in
set_option maxHeartbeats 8000000 in
theorem stp_back {β : Type} {r : β} {k pc : Nat} {ls st : List MV} {h : MH} {nx : Nat → List MV → List MV → MH → Option β} {cl : Nat → List MV → Nat → List MV → Option β} {rt : Option MV → Option β} :
    stp k pc ls st h (fun a b c d => nx a b c d = some r) (fun a b c d => cl a b c d = some r) (fun a => rt a = some r) False → stp k pc ls st h nx cl rt none = some r := by
  unfold stp
  cases fetch k pc with
  | none => exact False.elim
  | some il =>
    obtain ⟨i, len⟩ := il
    dsimp only
    cases i <;> try exact False.elim
    all_goals dsimp only
    all_goals (repeat' split)
    all_goals first | exact id | exact False.elim
set_option maxRecDepth 100000 in
set_option maxHeartbeats 8000000 in
theorem stp_ex {β : Type} {r : β} {k pc : Nat} {ls st : List MV} {h : MH} {nx : Nat → Nat → List MV → List MV → MH → Option β} {cl : Nat → Nat → List MV → Nat → List MV → Option β} {rt : Option MV → Option β} :
    stp k pc ls st h (fun a b c d => ∃ f, nx f a b c d = some r) (fun a b c d => ∃ f, cl f a b c d = some r) (fun a => rt a = some r) False → ∃ f, stp k pc ls st h (nx f) (cl f) rt none = some r := by
  unfold stp
  cases fetch k pc with
  | none => exact False.elim
  | some il =>
    obtain ⟨i, len⟩ := il
    dsimp only
    cases i <;> try exact False.elim
    all_goals dsimp only
    all_goals (repeat' split)
    all_goals first | exact id | exact fun q => ⟨0, q⟩ | exact False.elim
theorem rn_mono : ∀ (f d k pc : Nat) (ls st : List MV) (h : MH) (r : Option MV × MH), rn f d k pc ls st h = some r → rn (f + 1) d k pc ls st h = some r := by
  intro f
  induction f with
  | zero => intro d k pc ls st h r q; cases q
  | succ f ih =>
    intro d k pc ls st h r q
    rw [rn] at q
    rw [rn]
    refine stp_back (stp_imp ?_ ?_ ?_ q)
    · intro a b c d2 q; exact ih _ _ _ _ _ _ _ q
    · intro k2 vs pc2 rest q
      cases d with
      | zero => cases q
      | succ d2 =>
        dsimp only at q ⊢
        cases e1 : rn f d2 k2 0 (entry k2 vs) [] h with
        | none => rw [e1] at q; cases q
        | some r1 =>
          rw [e1] at q
          rw [ih _ _ _ _ _ _ _ e1]
          exact ih _ _ _ _ _ _ _ q
    · intro v q; exact q
theorem rn_le {f g d k pc : Nat} {ls st : List MV} {h : MH} {r : Option MV × MH} (hfg : f ≤ g) (q : rn f d k pc ls st h = some r) : rn g d k pc ls st h = some r := by
  induction hfg with
  | refl => exact q
  | step _ ih => exact rn_mono _ _ _ _ _ _ _ _ ih
theorem rn_det {f g d k pc : Nat} {ls st : List MV} {h : MH} {r r2 : Option MV × MH} (q : rn f d k pc ls st h = some r) (q2 : rn g d k pc ls st h = some r2) : r = r2 := by
  have a := rn_le (Nat.le_max_left f g) q
  have b := rn_le (Nat.le_max_right f g) q2
  exact Option.some.inj (a.symm.trans b)
/-- the run, if there is one -/
noncomputable def Run (d k pc : Nat) (ls st : List MV) (h : MH) : Option (Option MV × MH) := by
  classical
  exact if q : ∃ (f : Nat) (r : Option MV × MH), rn f d k pc ls st h = some r then some (Classical.choose (Classical.choose_spec q)) else none
theorem Run_iff {d k pc : Nat} {ls st : List MV} {h : MH} {r : Option MV × MH} : Run d k pc ls st h = some r ↔ ∃ f, rn f d k pc ls st h = some r := by
  classical
  unfold Run
  constructor
  · intro q
    by_cases e : ∃ (f : Nat) (r : Option MV × MH), rn f d k pc ls st h = some r
    · rw [dif_pos e] at q
      cases q
      exact ⟨_, Classical.choose_spec (Classical.choose_spec e)⟩
    · rw [dif_neg e] at q
      cases q
  · rintro ⟨f, q⟩
    have e : ∃ (f : Nat) (r : Option MV × MH), rn f d k pc ls st h = some r := ⟨f, r, q⟩
    rw [dif_pos e]
    congr 1
    exact rn_det (Classical.choose_spec (Classical.choose_spec e)) q
/-- what a call does -/
noncomputable def Cll (d k : Nat) (ls : List MV) (h : MH) (k2 : Nat) (vs : List MV) (pc2 : Nat) (rest : List MV) : Option (Option MV × MH) := match d with
  | 0 => none
  | d2 + 1 => match Run d2 k2 0 (entry k2 vs) [] h with
    | some (v, h2) => Run (d2 + 1) k pc2 ls (v.toList ++ rest) h2
    | none => none
theorem Run_def (d k pc : Nat) (ls st : List MV) (h : MH) : Run d k pc ls st h = stp k pc ls st h (fun pc ls st h => Run d k pc ls st h) (fun k2 vs pc2 rest => Cll d k ls h k2 vs pc2 rest) (fun v => some (v, h)) none := by
  apply Option.ext
  intro r
  constructor
  · intro q
    obtain ⟨f, q⟩ := Run_iff.mp q
    cases f with
    | zero => cases q
    | succ f =>
      rw [rn] at q
      refine stp_back (stp_imp ?_ ?_ ?_ q)
      · intro a b c d2 q; exact Run_iff.mpr ⟨f, q⟩
      · intro k2 vs pc2 rest q
        cases d with
        | zero => cases q
        | succ d2 =>
          dsimp only at q
          unfold Cll
          dsimp only
          cases e1 : rn f d2 k2 0 (entry k2 vs) [] h with
          | none => rw [e1] at q; cases q
          | some r1 =>
            rw [e1] at q
            rw [Run_iff.mpr ⟨f, e1⟩]
            exact Run_iff.mpr ⟨f, q⟩
      · intro v q; exact q
  · intro q
    have q2 := stp_imp (nx' := fun a b c d2 => ∃ f, rn f d k a b c d2 = some r) (cl' := fun k2 vs pc2 rest => ∃ f, (match d with
        | 0 => none
        | d2 + 1 => match rn f d2 k2 0 (entry k2 vs) [] h with
          | some (v, h2) => rn f (d2 + 1) k pc2 ls (v.toList ++ rest) h2
          | none => none) = some r) (rt' := fun v => some (v, h) = some r) (fun a b c d2 q => Run_iff.mp q) (fun k2 vs pc2 rest q => by
        unfold Cll at q
        cases d with
        | zero => cases q
        | succ d2 =>
          dsimp only at q ⊢
          cases e1 : Run d2 k2 0 (entry k2 vs) [] h with
          | none => rw [e1] at q; cases q
          | some r1 =>
            rw [e1] at q
            obtain ⟨f1, e1⟩ := Run_iff.mp e1
            obtain ⟨f2, e2⟩ := Run_iff.mp q
            refine ⟨max f1 f2, ?_⟩
            rw [rn_le (Nat.le_max_left f1 f2) e1]
            exact rn_le (Nat.le_max_right f1 f2) e2) (fun v q => q) q
    obtain ⟨f, q3⟩ := stp_ex q2
    exact Run_iff.mpr ⟨f + 1, by rw [rn]; exact q3⟩
/-- the answers are of the method's return type -/
def RetT (k : Nat) (v : Option MV) : Prop := (∃ x, v = some (.inl x) ∧ okR (mR k) x = true) ∨ (mR k = some .long ∧ ∃ x, v = some (.inr (.inl x))) ∨ (mR k = none ∧ v = none)
set_option maxRecDepth 100000 in
set_option maxHeartbeats 8000000 in
theorem stp_ret {k pc : Nat} {ls st : List MV} {h : MH} {P : Prop} {nx : Nat → List MV → List MV → MH → Prop} {cl : Nat → List MV → Nat → List MV → Prop} {rt : Option MV → Prop} (hnx : ∀ a b c d, nx a b c d → P) (hcl : ∀ a b c d, cl a b c d → P) (hrt : ∀ v, RetT k v → rt v → P) :
    stp k pc ls st h nx cl rt False → P := by
  unfold stp
  cases fetch k pc with
  | none => exact False.elim
  | some il =>
    obtain ⟨i, len⟩ := il
    dsimp only
    cases i <;> try exact False.elim
    all_goals dsimp only
    all_goals (repeat' split)
    all_goals first | exact hnx _ _ _ _ | exact hcl _ _ _ _ | exact False.elim | exact hrt _ (Or.inl ⟨_, rfl, ‹_›⟩) | exact hrt _ (Or.inr (Or.inl ⟨‹_›, _, rfl⟩)) | exact hrt _ (Or.inr (Or.inr ⟨‹_›, rfl⟩))
def rnC (f d k : Nat) (ls : List MV) (h : MH) (k2 : Nat) (vs : List MV) (pc2 : Nat) (rest : List MV) : Option (Option MV × MH) := match d with
  | 0 => none
  | d2 + 1 => match rn f d2 k2 0 (entry k2 vs) [] h with
    | some (v, h2) => rn f (d2 + 1) k pc2 ls (v.toList ++ rest) h2
    | none => none
theorem rn_succ (f d k pc : Nat) (ls st : List MV) (h : MH) : rn (f + 1) d k pc ls st h = stp k pc ls st h (fun pc ls st h => rn f d k pc ls st h) (rnC f d k ls h) (fun v => some (v, h)) none := by rw [rn]; rfl
theorem rn_ret : ∀ (f d k pc : Nat) (ls st : List MV) (h : MH) (r : Option MV × MH), rn f d k pc ls st h = some r → RetT k r.1 := by
  intro f
  induction f with
  | zero => intro d k pc ls st h r q; cases q
  | succ f ih =>
    intro d k pc ls st h r q
    rw [rn_succ] at q
    refine stp_ret ?_ ?_ ?_ (stp_imp (nx' := fun a b c d2 => rn f d k a b c d2 = some r) (cl' := fun k2 vs pc2 rest => rnC f d k ls h k2 vs pc2 rest = some r) (rt' := fun v => some (v, h) = some r) (fun _ _ _ _ q => q) (fun _ _ _ _ q => q) (fun _ q => q) q)
    · intro a b c d2 q; exact ih _ _ _ _ _ _ _ q
    · intro k2 vs pc2 rest q
      unfold rnC at q
      cases d with
      | zero => cases q
      | succ d2 =>
        dsimp only at q
        cases e1 : rn f d2 k2 0 (entry k2 vs) [] h with
        | none => rw [e1] at q; cases q
        | some r1 => rw [e1] at q; exact ih _ _ _ _ _ _ _ q
    · intro v hv q
      cases q
      exact hv
theorem Run_ret {d k pc : Nat} {ls st : List MV} {h : MH} {r : Option MV × MH} (q : Run d k pc ls st h = some r) : RetT k r.1 := by
  obtain ⟨f, q⟩ := Run_iff.mp q
  exact rn_ret _ _ _ _ _ _ _ _ q
