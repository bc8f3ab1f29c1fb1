/-! the tables' words: what the machine's rows need stands in lw_tbl, and is of the kind that stays -/
def sbl : List Jvm.Cond → List Jvm.Cond → Bool
  | [], _ => true
  | _ :: _, [] => false
  | a :: r, b :: t => if a = b then sbl r t else sbl (a :: r) t
theorem sbl_mem : ∀ (b a : List Jvm.Cond), sbl a b = true → ∀ w ∈ a, w ∈ b := by
  intro b
  induction b with
  | nil =>
    intro a h w hw
    cases a with
    | nil => exact hw
    | cons x r => simp [sbl] at h
  | cons y t ih =>
    intro a h w hw
    cases a with
    | nil => cases hw
    | cons x r =>
      unfold sbl at h
      by_cases e : x = y
      · rw [if_pos e] at h
        rcases List.mem_cons.mp hw with q | q
        · rw [q, e]; exact List.mem_cons_self
        · exact List.mem_cons_of_mem _ (ih r h w q)
      · rw [if_neg e] at h
        exact List.mem_cons_of_mem _ (ih (x :: r) h w hw)
/-- the words that stay -/
def gT : List Jvm.Cond := lw_tbl.filter goodWord
theorem gT_of {w : Jvm.Cond} (h : w ∈ lw_tbl) (g : goodWord w = true) : w ∈ gT := List.mem_filter.mpr ⟨h, g⟩
theorem gT_all {l : List Jvm.Cond} (h : sbl l lw_tbl = true) (g : l.all goodWord = true) : ∀ w ∈ l, w ∈ gT := fun w hw => gT_of (sbl_mem _ _ h w hw) (List.all_eq_true.mp g w hw)
def cnm (o : Nat) : String := mcn.getD o ""
def fdf (c j : Nat) : String × String × String := if c = 13 then (if j = 0 then ("java/lang/String", "value", "[B") else ("java/lang/String", "coder", "B")) else
  let r := (mcl.getD c ("", fun _ => ("", "", "", false), 0)).2.1 j
  (r.1, r.2.1, r.2.2.1)
def fW (e : Nat × Nat × Nat × Nat) : Jvm.Cond := .fieldLink (cnm e.1) e.2.1 (fdf e.2.2.1 e.2.2.2).1 (fdf e.2.2.1 e.2.2.2).2.1 (fdf e.2.2.1 e.2.2.2).2.2
def vW (e : Nat × Nat × Nat × Nat) : Jvm.Cond := .methodLink (cnm e.1) e.2.1 (mY e.2.2.1)
def cW (e : Nat × Nat × Int) : Jvm.Cond := .constant (cnm e.1) e.2.1 (Int32.ofInt e.2.2)
def lW (e : Nat × Nat × Int) : Jvm.Cond := .constantLong (cnm e.1) e.2.1 (Int64.ofInt e.2.2)
def aW (e : Nat × Nat) : Jvm.Cond := .methodLink (cnm e.1) e.2 arraycopyName
def gW (e : (Nat × Nat × Nat × Nat) × (String × String × String)) : Jvm.Cond := .fieldLink (cnm e.1.1) e.1.2.1 e.2.1 e.2.2.1 e.2.2.2
def kW (k : Nat) : Jvm.Cond := .code (mY k) (mC k) (mL k) (mR k)
theorem ok_f : ∀ w ∈ fL.map fW, w ∈ gT := gT_all (by decide +kernel) (by decide +kernel)
theorem ok_v : ∀ w ∈ vL_.map vW, w ∈ gT := gT_all (by decide +kernel) (by decide +kernel)
theorem ok_s : ∀ w ∈ sL.map vW, w ∈ gT := gT_all (by decide +kernel) (by decide +kernel)
theorem ok_c : ∀ w ∈ cL.map cW, w ∈ gT := gT_all (by decide +kernel) (by decide +kernel)
theorem ok_l : ∀ w ∈ lL.map lW, w ∈ gT := gT_all (by decide +kernel) (by decide +kernel)
theorem ok_a : ∀ w ∈ aL.map aW, w ∈ gT := gT_all (by decide +kernel) (by decide +kernel)
theorem ok_g : ∀ w ∈ (gL.zip gN).map gW, w ∈ gT := gT_all (by decide +kernel) (by decide +kernel)
def pk : List Nat → List Jvm.Cond → List Jvm.Cond
  | [], _ => []
  | g :: gs, l => match l.drop g with
    | [] => []
    | w :: r => w :: pk gs r
theorem pk_mem : ∀ (gs : List Nat) (l : List Jvm.Cond), ∀ w ∈ pk gs l, w ∈ l := by
  intro gs
  induction gs with
  | nil => intro l w h; cases h
  | cons g gs ih =>
    intro l w h
    unfold pk at h
    cases e : l.drop g with
    | nil => rw [e] at h; cases h
    | cons x r =>
      rw [e] at h
      have hx : x ∈ l := List.mem_of_mem_drop (i := g) (by rw [e]; exact List.mem_cons_self)
      rcases List.mem_cons.mp h with q | q
      · rw [q]; exact hx
      · exact List.mem_of_mem_drop (i := g) (by rw [e]; exact List.mem_cons_of_mem _ (ih r w q))
def kW' (e : MethodName × ByteArray × Nat × Option FieldType × Nat) : Jvm.Cond := .code e.1 e.2.1 e.2.2.1 e.2.2.2.1
set_option maxRecDepth 100000 in
theorem ok_k0 : (mtb.take nMe).map kW' = pk kGap lw_tbl := by rfl
theorem ok_k {k : Nat} (h : k < nMe) : kW k ∈ gT := by
  have hl : nMe ≤ mtb.length := by decide +kernel
  refine gT_of (pk_mem kGap lw_tbl _ ?_) rfl
  rw [← ok_k0]
  have hk : k < mtb.length := Nat.lt_of_lt_of_le h hl
  refine List.mem_map.mpr ⟨mtb.getD k (⟨"", "", ""⟩, ⟨#[]⟩, 0, none, 0), ?_, rfl⟩
  have e : mtb.getD k (⟨"", "", ""⟩, ⟨#[]⟩, 0, none, 0) = mtb[k] := by simp [List.getD, hk]
  rw [e]
  refine List.mem_iff_getElem.mpr ⟨k, by simp; omega, by simp⟩
theorem ok_i : ∀ w ∈ iLst.map (fun k => Jvm.Cond.instanceMethod (mY k)), w ∈ gT := gT_all (by decide +kernel) (by decide +kernel)
theorem ok_e : ∀ w ∈ eLst.map (fun k => Jvm.Cond.selects (mY k).cls (mY k) (mY k)), w ∈ gT := gT_all (by decide +kernel) (by decide +kernel)
theorem ok_t : ∀ w ∈ tLst.map (fun k => Jvm.Cond.static (mY k)), w ∈ gT := gT_all (by decide +kernel) (by decide +kernel)
theorem ok_n : ∀ w ∈ nLst.map (fun c => Jvm.Cond.initialized (cnm c)), w ∈ gT := gT_all (by decide +kernel) (by decide +kernel)
theorem ok_x : ∀ w ∈ [Jvm.Cond.native arraycopyName, Jvm.Cond.static arraycopyName], w ∈ gT := by
  have h1 : Jvm.Cond.native arraycopyName ∈ lw_tbl := by decide +kernel
  have h2 : Jvm.Cond.static arraycopyName ∈ lw_tbl := by decide +kernel
  intro w hw
  rcases List.mem_cons.mp hw with rfl | hw
  · exact gT_of h1 (by decide +kernel)
  · rw [List.mem_singleton.mp hw]
    exact gT_of h2 (by decide +kernel)
def hNm (n : Nat) : MethodName := match n with
  | 0 => Lib.Math.max.name
  | 1 => Lib.Math.min.name
  | 2 => Lib.Math.abs.name
  | 3 => Lib.MathLoose.max_long.x
  | 4 => Lib.MathLoose.min_long.x
  | _ => Lib.MathLoose.abs_long.x
def hW (e : Nat × Nat × Nat) : Jvm.Cond := .methodLink (cnm e.1) e.2.1 (hNm e.2.2)
theorem ok_h : ∀ w ∈ hL.map hW, w ∈ gT := gT_all (by decide +kernel) (by decide +kernel)
theorem ok_hs : ∀ n ∈ [0, 1, 2, 3, 4, 5], Jvm.Cond.static (hNm n) ∈ lw_tbl := by decide +kernel
theorem ok_h0 : Jvm.Cond.code Lib.Math.max.name Lib.Math.max.code 2 (some .int) ∈ lw_tbl := by decide +kernel
theorem ok_h1 : Jvm.Cond.code Lib.Math.min.name Lib.Math.min.code 2 (some .int) ∈ lw_tbl := by decide +kernel
theorem ok_h2 : Jvm.Cond.code Lib.Math.abs.name Lib.Math.abs.code 1 (some .int) ∈ lw_tbl := by decide +kernel
theorem ok_h3 : Jvm.Cond.code Lib.MathLoose.max_long.x Lib.MathLoose.max_long.code 4 (some .long) ∈ lw_tbl := by decide +kernel
theorem ok_h4 : Jvm.Cond.code Lib.MathLoose.min_long.x Lib.MathLoose.min_long.code 4 (some .long) ∈ lw_tbl := by decide +kernel
theorem ok_h5 : Jvm.Cond.code Lib.MathLoose.abs_long.x Lib.MathLoose.abs_long.code 2 (some .long) ∈ lw_tbl := by decide +kernel
theorem ok_math : Jvm.Cond.initialized "java/lang/Math" ∈ gT := gT_of (by decide +kernel) (by decide +kernel)
theorem ok_sys : Jvm.Cond.initialized "java/lang/System" ∈ gT := gT_of (by decide +kernel) (by decide +kernel)
/-- fields of the classes -/
theorem ok_u : ∀ r ∈ mcl, ∀ w ∈ u_ws r.1 r.2.1 r.2.2, w ∈ gT := by
  have h : ∀ r ∈ mcl, ((u_ws r.1 r.2.1 r.2.2).all (fun w => decide (w ∈ lw_tbl) && goodWord w)) = true := by decide +kernel
  intro r hr w hw
  have h1 := List.all_eq_true.mp (h r hr) w hw
  simp only [Bool.and_eq_true, decide_eq_true_eq] at h1
  exact gT_of h1.1 h1.2
/-- what is checked of a call's entry: the number of parameters, the method is one of the table, its words stand -/
def chkV (e : Nat × Nat × Nat × Nat) : Bool := decide (e.2.2.1 < nMe) && decide (e.2.2.1 ∈ iLst) && decide (e.2.2.1 ∈ eLst) && decide ((parseMethodDescriptor (mY e.2.2.1).desc).map (fun d => d.parameters.length) = some e.2.2.2)
def chkS (e : Nat × Nat × Nat × Nat) : Bool := decide (e.2.2.1 < nMe) && decide (e.2.2.1 ∈ tLst) && decide ((parseMethodDescriptor (mY e.2.2.1).desc).map (fun d => d.parameters.length) = some e.2.2.2)
theorem ok_cv : ∀ e ∈ vL_, chkV e = true := by decide +kernel
theorem ok_cs : ∀ e ∈ sL, chkS e = true := by decide +kernel
def chkM (k : Nat) : Bool := decide ((mY k).cls = cnm (mO k)) && plainName (mY k).cls && decide ((mY k).cls ≠ "java/lang/invoke/MethodHandle") && decide ((mY k).cls ≠ "java/lang/invoke/VarHandle") && decide (mO k ∈ nLst) && decide (mL k ≤ 40)
theorem ok_m1 : (List.range nMe).all (fun k => decide ((mY k).cls = cnm (mO k))) = true := by decide +kernel
theorem ok_m2 : (List.range nMe).all (fun k => Jvm.plainName (mY k).cls) = true := by decide +kernel
theorem ok_m3 : (List.range nMe).all (fun k => decide ((mY k).cls ≠ "java/lang/invoke/MethodHandle") && decide ((mY k).cls ≠ "java/lang/invoke/VarHandle")) = true := by decide +kernel
theorem ok_m4 : (List.range nMe).all (fun k => decide (mO k ∈ nLst)) = true := by decide +kernel
theorem ok_m5 : (List.range nMe).all (fun k => decide (mL k ≤ 40)) = true := by decide +kernel
/-- fields: their names are different, their types are read -/
def chkF (c : Nat) : Bool := let r := mcl.getD c ("", fun _ => ("", "", "", false), 0); (List.range r.2.2).all (fun a => (List.range r.2.2).all (fun b => decide (a = b) || decide ((r.2.1 a).2.1 ≠ (r.2.1 b).2.1)) && decide (parseFieldDescriptor (r.2.1 a).2.2.1 = some ((mty.getD c (fun _ => .int)) a)))
theorem ok_ff : ∀ c, c < 13 → chkF c = true := by decide +kernel
