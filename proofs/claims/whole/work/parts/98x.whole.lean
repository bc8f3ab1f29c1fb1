/-! the law from its entry to its end -/
theorem adW_v {x m o : Nat} {u u2 : US} {v : Nat → Nat} {a : Nat} (h : 121 ≤ a) : adW x m o u u2 v a = v a := by
  unfold adW
  rw [if_neg (by omega), if_neg (by omega), if_neg (by omega), if_neg (by omega)]
theorem mC_law : mC nMe = code := by first | rfl | decide +kernel
theorem mL_law : mL nMe = 7 := by decide +kernel
theorem mO_law : cnm (mO nMe) = "CannonPostLaw" := by decide +kernel
theorem fl_tr {l : Launch} (h : l.flags = flags0) : l.stackTraces = false := by
  unfold Launch.stackTraces
  rw [h]
  decide +kernel
set_option maxRecDepth 100000 in
theorem lw_run {p : Program} {e : Env} {s : State} {m : MethodId} {below : List Frame} {meth : Method} {c : Code} (l : Launch) (hflags : l.flags = flags0) {b L : Nat} {xs : Nat → Int32} (hL : L ≤ 3584) (C0 : lw_At p s m meth c b L xs) {v : Nat → Nat} {z : Value} {D : va_G} {T : Nat → Nat} (hz : z.category = 1) (hvb : v 138 = b) (hK : va_K D mcl (tyT T) s)
    (hRM : ∀ w : WP, (∀ a, 121 ≤ a → w.1 a = v a) → w.2.1 = z → (∀ j, w.2.2.2.2.1 j = (xs j).toInt) → w.2.2.2.2.2 = L → RM w (nwA s) s s.heap) {x mm o cells slots : Nat} {u u2 : US} {ls : Array Slot} (hl : lv_has ls 7 [(4, .int 0), (3, .ref o), (2, .ref mm), (1, .ref x), (0, .ref b)]) (h1 : cells ≤ 600512) (h2 : slots ≤ 7289962) :
    CW p l e room_1 s m #[Value.ref b] below meth c (lw_Z below #[Value.ref b] s) D (nwA s) (stW x mm o u u2 v T) cells slots 23 ls [] := by
  obtain ⟨hx, hb, hr, hml, hown, hts, hX, hbl, hlocks, hgv⟩ := id C0
  obtain ⟨sa, hXE⟩ := xe_start C0
  intro H locs g1 g2 g3
  have htsG : ∀ w ∈ gT, w.before #[Value.ref b] s = true := fun w hw => hts w (List.mem_filter.mp hw).1
  obtain ⟨w, ew⟩ : ∃ w, w = wst x mm o u u2 v T z D (fun j => (xs j).toInt) L := ⟨_, rfl⟩
  have hrm : RM w (nwA s) s s.heap := hRM w (fun a ha => by rw [ew]; exact adW_v ha) (by rw [ew]; rfl) (fun j => by rw [ew]; rfl) (by rw [ew]; rfl)
  obtain ⟨hP, hD⟩ := st_world (z := z) (sc := fun j => (xs j).toInt) (L := L) g1 g2
  rw [← ew] at hP hD
  have wL : w.2.2.2.2.2 = L := by rw [ew]; rfl
  have wD : w.2.2.1 = D := by rw [ew]; rfl
  have K : ∀ r : Nat, LX p room_1 s m #[Value.ref b] c (601024 - 1 * r) (7293034 - 6 * r) w (nwA s) := fun r =>
    ⟨⟨⟨hx, by rw [mC_law]; exact hb, by rw [mL_law]; exact hml, by rw [mO_law]; exact hown, htsG⟩, by rw [ew]; exact hK, hrm, by rw [ew]; exact hz, by decide, by decide, by show 601024 - 1 * r ≤ 601024; omega, by show 7293034 - 6 * r ≤ 7293034; omega⟩, by decide, by decide⟩
  have L0 := L_loop (p := p) (l := l) (e := e) (R := room_1) (s := s) (m := m) (args := #[Value.ref b]) (below := below) (meth := meth) (c := c) (Q := lw_Z below #[Value.ref b] s) (w := w) (A := nwA s) (n1 := 1) (n2 := 6) (M1 := 601024) (M2 := 7293034) K (by rw [wL]; omega)
    (fun r i z5 z6 h b2 Ws hr hn iv hb2 g => by
      have e1 : 601024 - 1 * (r + 1) + 1 = 601024 - 1 * r := by omega
      have e2 : 7293034 - 6 * (r + 1) + 6 = 7293034 - 6 * r := by omega
      refine L_c6 (K (r + 1)) (by rw [e1, e2]; exact K r) (fl_tr hflags) hXE (by rw [e1]; show 601024 - 1 * r ≤ 601024; omega) (by rw [e2]; show 7293034 - 6 * r ≤ 7293034; omega) (by decide) (by decide) hn (by rw [wL]; omega) iv ?_
      rw [e1, e2]
      exact g)
    (fun r i z5 z6 h => L_fin C0 (K r) (by omega) (by omega)) 512 0 0 (fun _ _ _ _ _ _ _ => 0) (h00 (fun j => (xs j).toInt) L) vU vU (Nat.le_refl _) (by rw [wL]; omega) (by omega) (InvX_start _ _ _) (by omega)
  have hb138 : w.1 138 = b := by
    rw [ew]
    show adW x mm o u u2 v 138 = b
    exact (adW_v (by decide)).trans hvb
  have hx0 : w.1 0 = x := by rw [ew]; rfl
  have hm97 : w.1 97 = mm := by rw [ew]; rfl
  have ho120 : w.1 120 = o := by rw [ew]; rfl
  have hasc : asc w 0 (lsH 0 vU vU) = [(0, .ref b), (1, .ref x), (2, .ref mm), (3, .ref o), (4, .int 0)] := by
    show [(0, val w (vR 138)), (1, val w (vR 0)), (2, val w (vR 97)), (3, val w (vR 120)), (4, val w (.inl ((0 : Nat) : Int)))] = _
    rw [val_ref (by decide : 138 < nC), val_ref (by decide : 0 < nC), val_ref (by decide : 97 < nC), val_ref (by decide : 120 < nC), hb138, hx0, hm97, ho120]
    rfl
  refine W.widen (k := 601024 - 1 * 512) (n := 7293034 - 6 * 512) (by omega) (by omega) ?_
  refine L0 ls H locs ?_ ?_ ?_ ?_ ⟨by rw [wD]; exact hP, hD, g3, ok_h00 (fun j => i32_in _) hL, ?_, ?_⟩
  · rw [hasc, mL_law]
    exact lv_sub hl [4, 3, 2, 1, 0] rfl
  · rw [mL_law]; rfl
  · intro y hy
    simp only [List.mem_cons, List.not_mem_nil, or_false] at hy
    rcases hy with rfl | rfl | rfl | rfl | rfl | rfl | rfl
    · exact Or.inr trivial
    · exact Or.inr trivial
    · exact Or.inr trivial
    · exact Or.inr trivial
    · exact Or.inr (by show inI _; unfold inI; omega)
    · exact Or.inl rfl
    · exact Or.inl rfl
  · exact fun y hy => by cases hy
  · rw [ew]; rfl
  · rw [ew]
    show ((L : Int)).toNat = L
    omega
set_option maxRecDepth 100000 in
/-- the law's entry: the kit's own head (claim's skeleton) -/
theorem whole_start {p : Program} {e : Env} {s : State} {m : MethodId} {below : List Frame} {meth : Method} {c : Code} (l : Launch) (hflags : l.flags = flags0) {b L : Nat} {xs : Nat → Int32} (hL : L ≤ 3584) (C0 : lw_At p s m meth c b L xs) : W p l e room_1 s m #[Value.ref b] below meth c s.heap [] 0 0 (lw_Z below #[Value.ref b] s) (entryFrame m ([Value.ref b] : List Value).toArray 7) := by
  obtain ⟨hx, hb, hr, hml, hown, hts, hX, hbl, hlocks, hgv⟩ := id C0
  have htsG : ∀ w ∈ gT, w.before #[Value.ref b] s = true := fun w hw => hts w (List.mem_filter.mp hw).1
  obtain ⟨v, z, hz, hvb, hvR, hRM⟩ := RM_start C0
  obtain ⟨D, T, hK⟩ := kn_start hts
  have hover : (Cond.arrayOver (.array .int)).before #[Value.ref b] s = true := hts _ (by decide +kernel)
  have hV : VBs D T v s := ⟨hK, hover, fun q hq => va_Nw.of rfl (hts _ (nw_tb q hq)), hvR⟩
  have hl := lv_entry ([.ref b]) (n := 7) (Nat.le_of_ble_eq_true rfl)
  rw [lg_entry_eq]
  generalize (lg_sl ([.ref b]) ++ List.replicate (7 - (lg_sl ([.ref b])).length) Slot.unset).toArray = ls at hl ⊢
  have hl : lv_has ls 7 [(0, .ref b)] := hl
  have mkK : ∀ ls : Array Slot, ls.size = 7 → CC p s m #[Value.ref b] c D T v (nwA s) "CannonPostLaw" code 7 ls := fun ls h => ⟨⟨hx, hb, hml, hown, htsG⟩, hV, fun _ h => h, h⟩
  have main : CW p l e room_1 s m #[Value.ref b] below meth c (lw_Z below #[Value.ref b] s) D (nwA s) [] 0 0 0 ls [] := by
    have K := mkK ls hl.1
    refine ct_new K 3 11 [.null, .null, .null, .null, .null, .null, .null, .null, .null, .null, .null, .null, .null, .int 0, .int 0] (by decide) lw_w1.1.1 lw_w1.1.2.1 lw_w1.1.2.2 (by decide +kernel) (by decide +kernel) rfl (Nat.le_of_ble_eq_true rfl) (Nat.le_of_ble_eq_true rfl) (fun x => ?_)
    refine ct_dup K 4 (by decide +kernel) rfl ?_
    refine ct_call (n := 0) (q := x) (d := 3) (mc := 96) (ms := 5376) (as := []) (rest := [.ref x]) K 7 (fun ws => ct_CannonPost l D T v (nwA s) x ws) lw_w1.2.1 lw_w1.1.2.2 lw_w1.2.2.1 lw_w1.2.2.2 rfl (by decide +kernel) rfl (by decide) (by decide +kernel) rfl (Nat.le_of_ble_eq_true rfl) (Nat.le_of_ble_eq_true rfl) (Nat.le_of_ble_eq_true rfl) (Nat.le_of_ble_eq_true rfl) (Nat.le_of_ble_eq_true rfl) (fun u => ?_)
    refine ct_astore K 8 1 [(1, .ref x), (0, .ref b)] (by decide +kernel) rfl hl (by decide) rfl rfl (fun ls1 hl1 => ?_)
    have K1 := mkK ls1 hl1.1
    refine ct_new K1 11 12 [.int 0, .null, .null, .null, .null, .null, .int 0, .int 0, .int 0, .int 0, .int 0, .int 0, .int 0, .int 0, .int 0, .null, .null, .int 0, .null, .null, .null, .null, .null, .null, .null, .null, .int 0, .int 0, .int 0, .int 0, .int 0, .int 0, .null, .null, .int 0, .int 0, .null, .int 0, .long 0, .null, .int 0, .int 0, .int 0, .null, .null, .null, .int 0, .null, .null, .int 0, .null, .int 0] (by decide) lw_w2.1.1 lw_w2.1.2.1 lw_w2.1.2.2 (by decide +kernel) (by decide +kernel) rfl (Nat.le_of_ble_eq_true rfl) (Nat.le_of_ble_eq_true rfl) (fun mm => ?_)
    refine ct_dup K1 12 (by decide +kernel) rfl ?_
    refine ct_call (n := 0) (q := mm) (d := 1) (mc := 22) (ms := 14181) (as := []) (rest := [.ref mm]) K1 15 (fun ws => ct_CannonPostModel l D T v (nwA s) mm ws) lw_w2.2.1 lw_w2.1.2.2 lw_w2.2.2.1 lw_w2.2.2.2 rfl (by decide +kernel) rfl (by decide) (by decide +kernel) rfl (Nat.le_of_ble_eq_true rfl) (Nat.le_of_ble_eq_true rfl) (Nat.le_of_ble_eq_true rfl) (Nat.le_of_ble_eq_true rfl) (Nat.le_of_ble_eq_true rfl) (fun u2 => ?_)
    refine ct_astore K1 16 2 [(2, .ref mm), (1, .ref x), (0, .ref b)] (by decide +kernel) rfl hl1 (by decide) rfl rfl (fun ls2 hl2 => ?_)
    have K2 := mkK ls2 hl2.1
    refine ct_iconst K2 17 (n := 1) (1) (by decide +kernel) (by decide) rfl ?_
    refine ct_newa K2 19 (atype := .long) (N := 1) (t0 := 3) (a0 := (1, .inr (.inl (fun _ => Int64.ofInt 0)))) (by decide +kernel) rfl rfl (fun _ _ => rfl) lw_w3 (fun _ => rfl) (by decide) (by decide) (Nat.le_of_ble_eq_true rfl) rfl (Nat.le_of_ble_eq_true rfl) (Nat.le_of_ble_eq_true rfl) (fun o => ?_)
    refine ct_astore K2 20 3 [(3, .ref o), (2, .ref mm), (1, .ref x), (0, .ref b)] (by decide +kernel) rfl hl2 (by decide) rfl rfl (fun ls3 hl3 => ?_)
    have K3 := mkK ls3 hl3.1
    refine ct_iconst K3 21 (n := 0) (0) (by decide +kernel) (by decide) rfl ?_
    refine ct_istore K3 23 4 [(4, .int 0), (3, .ref o), (2, .ref mm), (1, .ref x), (0, .ref b)] (by decide +kernel) hl3 (by decide) rfl rfl (fun ls4 hl4 => ?_)
    exact lw_run l hflags hL C0 hz hvb hK hRM hl4 (Nat.le_of_ble_eq_true rfl) (Nat.le_of_ble_eq_true rfl)
  exact main s.heap [] (fun k q h => by simp at h) ⟨fun i j a q h => by simp at h, fun k q h => by simp at h⟩ va_S.rf
