/-! what stays, out of the law's start -/
def stPl : List (String × Nat) := [("CannonPost$LeagueReader", 93), ("CannonPost$LawReader", 67), ("CannonPostModel", 26), ("CannonPostModel", 251), ("CannonPostModel", 257), ("CannonPostModel", 259), ("CannonPostModel", 267)]
def stmT (i : Nat) : Term := .string (stPl.getD i ("", 0)).1 (stPl.getD i ("", 0)).2
def stLn (i : Nat) : Nat := (mk (131 + i)).2
def stLs : List Nat := (List.range 7).map stLn
def stBs : List (List Int32) := (List.range 7).map (fun i => (oT.getD (10 + i) []).map Int32.ofInt)
def fCs : List Cond := flatC (Jvm.Cond.and given_1 narrow_1)
theorem getD_ofInt (l : List Int) (j : Nat) : (l.map Int32.ofInt).getD j 0 = Int32.ofInt (l.getD j 0) := by
  rw [List.getD_eq_getElem?_getD, List.getElem?_map, List.getD_eq_getElem?_getD]
  cases l[j]? with
  | none => rfl
  | some x => rfl
theorem st_l : ∀ i, i < 7 → stLs.getD i 0 = (mk (131 + i)).2 := by decide +kernel
theorem st_b (i : Nat) (h : i < 7) (j : Nat) : (stBs.getD i []).getD j 0 = Int32.ofInt (ro (131 + i) j) := by
  have e : stBs.getD i [] = (oT.getD (10 + i) []).map Int32.ofInt := by
    unfold stBs
    rw [List.getD_eq_getElem?_getD, List.getElem?_map, List.getElem?_range h]
    rfl
  rw [e, getD_ofInt]
  unfold ro
  rw [show 131 + i - nM = 10 + i by have : nM = 121 := rfl
                                    omega]
theorem st_110 : ∀ a, a < nC → (mk a).1 = 110 → (a = 121 ∨ a = 122 ∨ a = 123) ∧ (mk a).2 = 10 := by decide +kernel
theorem st_111 : ∀ a, a < nC → (mk a).1 = 111 → 131 ≤ a ∧ a < 138 := by decide +kernel
theorem st_13 : ∀ a, a < nC → (mk a).1 = 13 → 124 ≤ a ∧ a < 131 ∧ mr a 0 = a + 7 := by decide +kernel
def arN (i : Nat) : String := match i with
  | 0 => "USUAL"
  | 1 => "LEAST"
  | _ => "MOST"
def arT (i : Nat) : Term := .static "CannonPost$LeagueReader" (arN i) "[I"
theorem arC1 : ∀ i, i < 3 → Cond.arrayOf (arT i) .int ∈ fCs := by decide +kernel
theorem arC2 : ∀ i, i < 3 → Cond.eq (.length (arT i)) (.int (Int32.ofNat 10)) ∈ fCs := by decide +kernel
theorem arC3 : ∀ i, i < 3 → ∀ j, j < 10 → Cond.eq (.elem (arT i) (.int (Int32.ofNat j))) (.int (Int32.ofInt (ro (121 + i) j))) ∈ fCs := by decide +kernel
theorem arC4 : ∀ i, i < 3 → Cond.laysStatic "CannonPost$LeagueReader" (arN i) "[I" ∈ lw_tbl := by decide +kernel
theorem arC5 : Cond.initialized "CannonPost$LeagueReader" ∈ lw_tbl := by decide +kernel
theorem stC1 : ∀ i, i < 7 → Cond.exactly (stmT i) "java/lang/String" ∈ fCs := by decide +kernel
theorem stC2 : ∀ i, i < 7 → Cond.eq (.field (stmT i) "java/lang/String" "coder" "B") (.int 0) ∈ fCs := by decide +kernel
theorem stC3 : ∀ i, i < 7 → Cond.arrayOf (.field (stmT i) "java/lang/String" "value" "[B") .byte ∈ fCs := by decide +kernel
theorem stC4 : ∀ i, i < 7 → Cond.eq (.length (.field (stmT i) "java/lang/String" "value" "[B")) (.int (Int32.ofNat (stLs.getD i 0))) ∈ fCs := by decide +kernel
theorem stC5 : ∀ i, i < 7 → ∀ j, j < stLs.getD i 0 → Cond.eq (.elem (.field (stmT i) "java/lang/String" "value" "[B") (.int (Int32.ofNat j))) (.int ((stBs.getD i []).getD j 0)) ∈ fCs := by decide +kernel
theorem stC6 : ∀ i, i < 7 → ∀ j, j < 7 → i ≠ j → Cond.not (Cond.eq (stmT i) (stmT j)) ∈ fCs ∨ Cond.not (Cond.eq (stmT j) (stmT i)) ∈ fCs := by decide +kernel
theorem stC7 : Cond.eq (.string "CannonPost$LawReader" 67) (.string "CannonPostModel" 32) ∈ fCs := by decide +kernel
def stTx : List String := ["wdpbxhymnf", "pmwhnd", "y", "pmwhnd", "wdpb", "xhy", "mnf", "shwn"]
theorem stC8 : ∀ i, i < 8 → Cond.stringRef (cnm (rL.getD i (0, 0, 0)).1) (rL.getD i (0, 0, 0)).2.1 (stTx.getD i "") ∈ lw_tbl := by decide +kernel
theorem stC9 : Cond.eq (.static "java/lang/String" "COMPACT_STRINGS" "Z") (.int 1) ∈ fCs ∧ Cond.isRef (.static "jdk/internal/util/Preconditions" "SIOOBE_FORMATTER" "Ljava/util/function/BiFunction;") ∈ fCs := by decide +kernel
theorem stC10 : Cond.laysStatic "java/lang/String" "COMPACT_STRINGS" "Z" ∈ lw_tbl ∧ Cond.initialized "java/lang/String" ∈ lw_tbl ∧ Cond.laysStatic "jdk/internal/util/Preconditions" "SIOOBE_FORMATTER" "Ljava/util/function/BiFunction;" ∈ lw_tbl ∧ Cond.initialized "jdk/internal/util/Preconditions" ∈ lw_tbl := by decide +kernel
/-- the addresses of what stays -/
theorem RM_start {p : Program} {s : State} {m : MethodId} {meth : Method} {c : Code} {b L : Nat} {xs : Nat → Int32} (C0 : lw_At p s m meth c b L xs) : ∃ (v : Nat → Nat) (z : Value), z.category = 1 ∧ v 138 = b ∧ (∀ e ∈ rL, ∃ tx, vk_R (cnm e.1) e.2.1 tx (v e.2.2) s) ∧ ∀ w : WP, (∀ a, 121 ≤ a → w.1 a = v a) → w.2.1 = z → (∀ j, w.2.2.2.2.1 j = (xs j).toInt) → w.2.2.2.2.2 = L → RM w (nwA s) s s.heap := by
  obtain ⟨hx, hb, hr, hml, hown, hts, hX, hbl, hlocks, hgv⟩ := id C0
  have hs : ∀ c ∈ fCs, c.before #[Value.ref b] s = true := flat_of_before _ hgv
  have hA : ∀ a : Nat, a < s.heap.size → ¬ nwA s a := fun a h q => by
    have : s.heap.size ≤ a := q
    omega
  have ar : ∀ i, i < 3 → ∃ t : Nat, (arT i).eval #[Value.ref b] s none [] s = some (.ref t) ∧ va_T .int t 10 (fun j => .int (Int32.ofInt (ro (121 + i) j))) (nwA s) s s.heap := fun i hi => va_Tof (by decide) (hs _ (arC1 i hi)) (va_eqt (hs _ (arC2 i hi))) (fun j hj => va_eqt (hs _ (arC3 i hi j hj))) hA
  obtain ⟨t0, a0, T0⟩ := ar 0 (by decide)
  obtain ⟨t1, a1, T1⟩ := ar 1 (by decide)
  obtain ⟨t2, a2, T2⟩ := ar 2 (by decide)
  have z0 : va_Z "CannonPost$LeagueReader" "USUAL" "[I" (.ref t0) (nwA s) s s.heap := va_Zof (hts _ (arC4 0 (by decide))) (hts _ arC5) a0 hA
  have z1 : va_Z "CannonPost$LeagueReader" "LEAST" "[I" (.ref t1) (nwA s) s s.heap := va_Zof (hts _ (arC4 1 (by decide))) (hts _ arC5) a1 hA
  have z2 : va_Z "CannonPost$LeagueReader" "MOST" "[I" (.ref t2) (nwA s) s s.heap := va_Zof (hts _ (arC4 2 (by decide))) (hts _ arC5) a2 hA
  have z3 : va_Z "java/lang/String" "COMPACT_STRINGS" "Z" (.int 1) (nwA s) s s.heap := va_Zof (hts _ stC10.1) (hts _ stC10.2.1) (va_eqt (hs _ stC9.1)) hA
  obtain ⟨z, hz1, z4⟩ : ∃ z : Value, z.category = 1 ∧ va_Z "jdk/internal/util/Preconditions" "SIOOBE_FORMATTER" "Ljava/util/function/BiFunction;" z (nwA s) s s.heap := by
    rcases va_Zqof (A := nwA s) (hts _ stC10.2.2.1) (hts _ stC10.2.2.2) (hs _ stC9.2) hA with h | ⟨t, h⟩
    · exact ⟨_, rfl, h⟩
    · exact ⟨_, rfl, h⟩
  obtain ⟨adK, adV, hS, hev⟩ := vk_Sof (N := 7) (tm := stmT) (len := stLs) (byt := stBs) (A := nwA s) (by decide +kernel) (fun i hi => hs _ (stC1 i hi)) (fun i hi => hs _ (stC2 i hi)) (fun i hi => hs _ (stC3 i hi)) (fun i hi => hs _ (stC4 i hi)) (fun i hi j hj => hs _ (stC5 i hi j hj)) (fun i j hi hj hij => (stC6 i hi j hj hij).imp (hs _) (hs _)) hA
  have ev32 : (Term.string "CannonPostModel" 32).eval #[Value.ref b] s none [] s = some (.ref (adK 1)) := va_eqR (hs _ stC7) (hev 1 (by decide))
  refine ⟨fun a => if a = 121 then t0 else if a = 122 then t1 else if a = 123 then t2 else if a < 131 then adK (a - 124) else if a < 138 then adV (a - 131) else b, z, hz1, rfl, ?_, ?_⟩
  · intro e he
    have hv : ∀ i, i < 8 → (Cond.stringRef (cnm (rL.getD i (0, 0, 0)).1) (rL.getD i (0, 0, 0)).2.1 (stTx.getD i "")).before #[Value.ref b] s = true := fun i hi => hts _ (stC8 i hi)
    simp only [rL, List.mem_cons, List.not_mem_nil, or_false] at he
    rcases he with rfl | rfl | rfl | rfl | rfl | rfl | rfl | rfl
    · exact ⟨_, vk_R.of (hv 0 (by decide)) (hev 0 (by decide))⟩
    · exact ⟨_, vk_R.of (hv 1 (by decide)) (hev 1 (by decide))⟩
    · exact ⟨_, vk_R.of (hv 2 (by decide)) (hev 2 (by decide))⟩
    · exact ⟨_, vk_R.of (hv 3 (by decide)) ev32⟩
    · exact ⟨_, vk_R.of (hv 4 (by decide)) (hev 3 (by decide))⟩
    · exact ⟨_, vk_R.of (hv 5 (by decide)) (hev 4 (by decide))⟩
    · exact ⟨_, vk_R.of (hv 6 (by decide)) (hev 5 (by decide))⟩
    · exact ⟨_, vk_R.of (hv 7 (by decide)) (hev 6 (by decide))⟩
  · intro w hw hz hxs hL
    have w1 : w.1 121 = t0 := hw 121 (by decide)
    have w2 : w.1 122 = t1 := hw 122 (by decide)
    have w3 : w.1 123 = t2 := hw 123 (by decide)
    have wk : ∀ i, i < 7 → w.1 (124 + i) = adK i := fun i hi => by
      rw [hw (124 + i) (by omega)]; dsimp only; rw [if_neg (by omega), if_neg (by omega), if_neg (by omega), if_pos (by omega), show 124 + i - 124 = i by omega]
    have wv : ∀ i, i < 7 → w.1 (131 + i) = adV i := fun i hi => by
      rw [hw (131 + i) (by omega)]; dsimp only; rw [if_neg (by omega), if_neg (by omega), if_neg (by omega), if_neg (by omega), if_pos (by omega), show 131 + i - 131 = i by omega]
    have wb : w.1 scC = b := hw 138 (by decide)
    have ws : ∀ a, a < nC → (mk a).1 = 13 → ∃ i, i < 7 ∧ a = 124 + i := fun a ha hk => ⟨a - 124, by have := st_13 a ha hk; omega, by have := st_13 a ha hk; omega⟩
    refine ⟨?_, ?_, ?_, ?_, ?_, ?_, ?_, ?_⟩
    · intro q hq
      simp only [gL, gN, List.zip_cons_cons, List.zip_nil_right, List.mem_cons, List.not_mem_nil, or_false] at hq
      rcases hq with rfl | rfl | rfl | rfl | rfl
      · show va_Z _ _ _ (Value.ref (w.1 121)) _ _ _
        rw [w1]; exact z0
      · exact z3
      · show va_Z _ _ _ w.2.1 _ _ _
        rw [hz]; exact z4
      · show va_Z _ _ _ (Value.ref (w.1 122)) _ _ _
        rw [w2]; exact z1
      · show va_Z _ _ _ (Value.ref (w.1 123)) _ _ _
        rw [w3]; exact z2
    · intro a ha hk
      obtain ⟨h1, h2⟩ := st_110 a ha hk
      rw [h2]
      rcases h1 with rfl | rfl | rfl
      · rw [w1]; exact T0
      · rw [w2]; exact T1
      · rw [w3]; exact T2
    · intro a ha hk
      obtain ⟨h1, h2⟩ := st_111 a ha hk
      obtain ⟨i, rfl⟩ : ∃ i, a = 131 + i := ⟨a - 131, by omega⟩
      have hi : i < 7 := by omega
      have := (hS.1 i hi).2.2.2
      rw [wv i hi, ← st_l i hi]
      rw [show (fun j => Value.int (Int32.ofInt (ro (131 + i) j))) = fun j => Value.int ((stBs.getD i []).getD j 0) from funext fun j => by rw [st_b i hi j]]
      exact this
    · intro a ha hk
      obtain ⟨i, hi, rfl⟩ := ws a ha hk
      have e := (st_13 _ ha hk).2.2
      rw [e, wk i hi, show 124 + i + 7 = 131 + i by omega, wv i hi]
      exact ⟨(hS.1 i hi).1, (hS.1 i hi).2.2.1, (hS.1 i hi).2.1⟩
    · intro e he
      have hv : ∀ i, i < 8 → (Cond.stringRef (cnm (rL.getD i (0, 0, 0)).1) (rL.getD i (0, 0, 0)).2.1 (stTx.getD i "")).before #[Value.ref b] s = true := fun i hi => hts _ (stC8 i hi)
      simp only [rL, List.mem_cons, List.not_mem_nil, or_false] at he
      rcases he with rfl | rfl | rfl | rfl | rfl | rfl | rfl | rfl
      · exact ⟨_, by rw [show w.1 124 = adK 0 from wk 0 (by decide)]; exact vk_R.of (hv 0 (by decide)) (hev 0 (by decide))⟩
      · exact ⟨_, by rw [show w.1 125 = adK 1 from wk 1 (by decide)]; exact vk_R.of (hv 1 (by decide)) (hev 1 (by decide))⟩
      · exact ⟨_, by rw [show w.1 126 = adK 2 from wk 2 (by decide)]; exact vk_R.of (hv 2 (by decide)) (hev 2 (by decide))⟩
      · exact ⟨_, by rw [show w.1 125 = adK 1 from wk 1 (by decide)]; exact vk_R.of (hv 3 (by decide)) ev32⟩
      · exact ⟨_, by rw [show w.1 127 = adK 3 from wk 3 (by decide)]; exact vk_R.of (hv 4 (by decide)) (hev 3 (by decide))⟩
      · exact ⟨_, by rw [show w.1 128 = adK 4 from wk 4 (by decide)]; exact vk_R.of (hv 5 (by decide)) (hev 4 (by decide))⟩
      · exact ⟨_, by rw [show w.1 129 = adK 5 from wk 5 (by decide)]; exact vk_R.of (hv 6 (by decide)) (hev 5 (by decide))⟩
      · exact ⟨_, by rw [show w.1 130 = adK 6 from wk 6 (by decide)]; exact vk_R.of (hv 7 (by decide)) (hev 6 (by decide))⟩
    · rw [wb, hL]
      rw [show (fun j => Int32.ofInt (w.2.2.2.2.1 j)) = xs from funext fun j => by rw [hxs j, Int32.ofInt_toInt]]
      exact hX
    · rw [wb]; exact hbl
    · rw [wb]; exact hA _ hbl
