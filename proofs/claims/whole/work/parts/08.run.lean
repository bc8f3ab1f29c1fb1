/-! the small machine's runs are runs of the machine -/
set_option maxRecDepth 100000 in
set_option maxHeartbeats 8000000 in
theorem stp_imp {β : Type} {r : β} {k pc : Nat} {ls st : List MV} {h : MH} {nx : Nat → List MV → List MV → MH → Option β} {cl : Nat → List MV → Nat → List MV → Option β} {rt : Option MV → Option β} {nx' : Nat → List MV → List MV → MH → Prop} {cl' : Nat → List MV → Nat → List MV → Prop} {rt' : Option MV → Prop}
    (hnx : ∀ a b c d, nx a b c d = some r → nx' a b c d) (hcl : ∀ a b c d, cl a b c d = some r → cl' a b c d) (hrt : ∀ a, rt a = some r → rt' a) : stp k pc ls st h nx cl rt none = some r → stp k pc ls st h nx' cl' rt' False := by
  have hbad : (none : Option β) = some r → False := fun q => by cases q
  unfold stp
  cases fetch k pc with
  | none => exact hbad
  | some il =>
    obtain ⟨i, len⟩ := il
    dsimp only
    cases i <;> try exact hbad
    all_goals dsimp only
    all_goals (repeat' split)
    all_goals first | exact hnx _ _ _ _ | exact hcl _ _ _ _ | exact hrt _ | exact hbad
