/-! the constructors (written by wip/whole/genct.py) -/
def ctWs : List Jvm.Cond := [.instanceMethod Lib.objectInit,
  .code Lib.objectInit ⟨#[0xb1]⟩ 1 none,
  .arrayClass .int,
  .arrayClass .byte,
  .arrayClass .boolean,
  .arrayClass .long,
  .methodLink "CannonPost$Tape" 3 Lib.objectInit,
  .methodLink "CannonPost$League" 3 Lib.objectInit,
  .methodLink "CannonPost$LeagueReader" 3 Lib.objectInit,
  .classLink "CannonPost$LeagueReader" 9 "CannonPost$League",
  .instantiable "CannonPost$League" 5,
  .initialized "CannonPost$League",
  .code (nwY 1) prog_7_method_1_code 1 none,
  .instanceMethod (nwY 1),
  .methodLink "CannonPost$LawReader" 3 Lib.objectInit,
  .methodLink "CannonPost$Lawbook" 3 Lib.objectInit,
  .classLink "CannonPost$Lawbook" 21 ("[" ++ (FieldType.array .int).toString),
  .methodLink "CannonPost$Planbook" 3 Lib.objectInit,
  .classLink "CannonPost$Planbook" 15 ("[" ++ (FieldType.array .int).toString),
  .methodLink "CannonPost$Flight" 5 Lib.objectInit,
  .methodLink "CannonPost$Paths" 3 Lib.objectInit,
  .methodLink "CannonPost$Guesses" 3 Lib.objectInit,
  .methodLink "CannonPost$History" 1 Lib.objectInit,
  .classLink "CannonPost$History" 11 ("[" ++ (FieldType.array .int).toString),
  .methodLink "CannonPost$State" 9 Lib.objectInit,
  .methodLink "CannonPost" 1 Lib.objectInit,
  .classLink "CannonPost" 7 "CannonPost$Tape",
  .instantiable "CannonPost$Tape" 3,
  .initialized "CannonPost$Tape",
  .code (nwY 0) prog_12_method_1_code 1 none,
  .instanceMethod (nwY 0),
  .classLink "CannonPost" 16 "CannonPost$League",
  .classLink "CannonPost" 23 "CannonPost$LeagueReader",
  .instantiable "CannonPost$LeagueReader" 3,
  .initialized "CannonPost$LeagueReader",
  .code (⟨"CannonPost$LeagueReader", "<init>", "(LCannonPost$Tape;)V"⟩ : MethodName) prog_8_method_1_code 2 none,
  .methodLink "CannonPost" 25 (⟨"CannonPost$LeagueReader", "<init>", "(LCannonPost$Tape;)V"⟩ : MethodName),
  .instanceMethod (⟨"CannonPost$LeagueReader", "<init>", "(LCannonPost$Tape;)V"⟩ : MethodName),
  .classLink "CannonPost" 32 "CannonPost$LawReader",
  .instantiable "CannonPost$LawReader" 3,
  .initialized "CannonPost$LawReader",
  .code (⟨"CannonPost$LawReader", "<init>", "(LCannonPost$Tape;)V"⟩ : MethodName) prog_5_method_1_code 2 none,
  .methodLink "CannonPost" 34 (⟨"CannonPost$LawReader", "<init>", "(LCannonPost$Tape;)V"⟩ : MethodName),
  .instanceMethod (⟨"CannonPost$LawReader", "<init>", "(LCannonPost$Tape;)V"⟩ : MethodName),
  .classLink "CannonPost" 39 "CannonPost$Lawbook",
  .instantiable "CannonPost$Lawbook" 6,
  .initialized "CannonPost$Lawbook",
  .code (nwY 2) prog_6_method_1_code 1 none,
  .instanceMethod (nwY 2),
  .classLink "CannonPost" 46 "CannonPost$Planbook",
  .instantiable "CannonPost$Planbook" 6,
  .initialized "CannonPost$Planbook",
  .code (⟨"CannonPost$Planbook", "<init>", "(LCannonPost$Tape;)V"⟩ : MethodName) prog_10_method_1_code 2 none,
  .methodLink "CannonPost" 48 (⟨"CannonPost$Planbook", "<init>", "(LCannonPost$Tape;)V"⟩ : MethodName),
  .instanceMethod (⟨"CannonPost$Planbook", "<init>", "(LCannonPost$Tape;)V"⟩ : MethodName),
  .classLink "CannonPost" 53 "CannonPost$Flight",
  .instantiable "CannonPost$Flight" 4,
  .initialized "CannonPost$Flight",
  .code (⟨"CannonPost$Flight", "<init>", "(LCannonPost$League;LCannonPost$Lawbook;)V"⟩ : MethodName) prog_2_method_1_code 3 none,
  .methodLink "CannonPost" 55 (⟨"CannonPost$Flight", "<init>", "(LCannonPost$League;LCannonPost$Lawbook;)V"⟩ : MethodName),
  .instanceMethod (⟨"CannonPost$Flight", "<init>", "(LCannonPost$League;LCannonPost$Lawbook;)V"⟩ : MethodName),
  .classLink "CannonPost" 62 "CannonPost$Paths",
  .instantiable "CannonPost$Paths" 7,
  .initialized "CannonPost$Paths",
  .code (⟨"CannonPost$Paths", "<init>", "(LCannonPost$League;LCannonPost$Flight;)V"⟩ : MethodName) prog_9_method_1_code 3 none,
  .methodLink "CannonPost" 64 (⟨"CannonPost$Paths", "<init>", "(LCannonPost$League;LCannonPost$Flight;)V"⟩ : MethodName),
  .instanceMethod (⟨"CannonPost$Paths", "<init>", "(LCannonPost$League;LCannonPost$Flight;)V"⟩ : MethodName),
  .classLink "CannonPost" 71 "CannonPost$Guesses",
  .instantiable "CannonPost$Guesses" 10,
  .initialized "CannonPost$Guesses",
  .code (⟨"CannonPost$Guesses", "<init>", "(LCannonPost$League;LCannonPost$Flight;)V"⟩ : MethodName) prog_3_method_1_code 3 none,
  .methodLink "CannonPost" 73 (⟨"CannonPost$Guesses", "<init>", "(LCannonPost$League;LCannonPost$Flight;)V"⟩ : MethodName),
  .instanceMethod (⟨"CannonPost$Guesses", "<init>", "(LCannonPost$League;LCannonPost$Flight;)V"⟩ : MethodName),
  .classLink "CannonPost" 78 "CannonPost$History",
  .instantiable "CannonPost$History" 3,
  .initialized "CannonPost$History",
  .code (nwY 3) prog_4_method_1_code 1 none,
  .instanceMethod (nwY 3),
  .classLink "CannonPost" 85 "CannonPost$State",
  .instantiable "CannonPost$State" 2,
  .initialized "CannonPost$State",
  .code (nwY 4) prog_11_method_1_code 1 none,
  .instanceMethod (nwY 4),
  .methodLink "CannonPostModel" 3 Lib.objectInit]
theorem ctW : ∀ w ∈ ctWs, w ∈ gT := by
  have h : ctWs.all (fun w => decide (w ∈ lw_tbl) && goodWord w) = true := by decide +kernel
  intro w hw
  have h1 := List.all_eq_true.mp h w hw
  simp only [Bool.and_eq_true, decide_eq_true_eq] at h1
  exact gT_of h1.1 h1.2
def ct_Tape_fs (v : Nat → Nat) (u : US) : List Value := [.ref (u.1 0), .int 0, .int 0]
def ct_Tape_nw (T v : Nat → Nat) (u : US) : va_W := [(u.1 0, .inl (T 1, 240, .inl (fun _ => Int32.ofInt 0)))]
set_option maxHeartbeats 4000000 in
set_option maxRecDepth 100000 in
theorem ct_Tape (l : Launch) (D : va_G) (T v : Nat → Nat) (A : Nat → Prop) (h0 : Nat) (ws : va_W) : Met l (nwY 0) (Cond.code (nwY 0) prog_12_method_1_code 1 none :: gT) (rmC 1 1 240) (CtP D T v A h0 10 [.null, .int 0, .int 0] [] ws) (CtQ D A h0 10 (ct_Tape_fs v) ws (ct_Tape_nw T v)) 1 240 A := by
  refine ct_met (by decide +kernel) rfl (Nat.le_of_ble_eq_true rfl) (fun p e s m args below meth c ls K hname hl kret => ?_)
  have hl : lv_has ls 1 [(0, .ref h0)] := hl
  have K : CC p s m args c D T v A "CannonPost$Tape" prog_12_method_1_code 1 ls := K
  refine ct_aload K 1 0 (by decide +kernel) (lv_at hl 0 rfl) rfl ?_
  refine ct_obj K 4 (ctW _ (List.mem_of_getElem? (i := 6) rfl)) (ctW _ (List.mem_of_getElem? (i := 0) rfl)) (ctW _ (List.mem_of_getElem? (i := 1) rfl)) (by decide +kernel) rfl (Nat.le_of_ble_eq_true rfl) (Nat.le_of_ble_eq_true rfl) ?_
  refine ct_aload K 5 0 (by decide +kernel) (lv_at hl 0 rfl) rfl ?_
  refine ct_sipush K 8 (n := 240) (240) (by decide +kernel) (by decide) rfl ?_
  refine ct_newa K 10 (atype := .byte) (N := 240) (t0 := 1) (a0 := (240, .inl (fun _ => Int32.ofInt 0))) (by decide +kernel) rfl rfl (fun _ _ => rfl) (ctW _ (List.mem_of_getElem? (i := 3) rfl)) (fun _ => rfl) (by decide) (by decide) (Nat.le_of_ble_eq_true rfl) rfl (Nat.le_of_ble_eq_true rfl) (Nat.le_of_ble_eq_true rfl) (fun q0 => ?_)
  refine ct_putA K hname 13 (o := 10) (idx := 11) (ci := 10) (k := 0) (fs' := [.ref q0, .int 0, .int 0]) (by decide +kernel) rfl (by decide) (by decide) rfl rfl rfl (Nat.le_of_ble_eq_true rfl) rfl (by decide +kernel) rfl ?_
  refine kret (fun i => [q0].getD i 0, fun g => ([] : List (Nat → Nat)).getD g (fun _ => 0)) 13 _ ?_ (by decide +kernel)
  simp only [List.append_assoc, List.cons_append, List.nil_append, ct_Tape_fs, ct_Tape_nw]
  try rfl
def ct_League_fs (v : Nat → Nat) (u : US) : List Value := [.ref (u.1 0), .ref (u.1 1), .ref (u.1 2), .int 0, .int 0]
def ct_League_nw (T v : Nat → Nat) (u : US) : va_W := [(u.1 0, .inl (T 0, 4, .inl (fun _ => Int32.ofInt 0))), (u.1 1, .inl (T 0, 24, .inl (fun _ => Int32.ofInt 0))), (u.1 2, .inl (T 0, 15, .inl (fun _ => Int32.ofInt 0)))]
set_option maxHeartbeats 4000000 in
set_option maxRecDepth 100000 in
theorem ct_League (l : Launch) (D : va_G) (T v : Nat → Nat) (A : Nat → Prop) (h0 : Nat) (ws : va_W) : Met l (nwY 1) (Cond.code (nwY 1) prog_7_method_1_code 1 none :: gT) (rmC 1 3 43) (CtP D T v A h0 5 [.null, .null, .null, .int 0, .int 0] [] ws) (CtQ D A h0 5 (ct_League_fs v) ws (ct_League_nw T v)) 3 43 A := by
  refine ct_met (by decide +kernel) rfl (Nat.le_of_ble_eq_true rfl) (fun p e s m args below meth c ls K hname hl kret => ?_)
  have hl : lv_has ls 1 [(0, .ref h0)] := hl
  have K : CC p s m args c D T v A "CannonPost$League" prog_7_method_1_code 1 ls := K
  refine ct_aload K 1 0 (by decide +kernel) (lv_at hl 0 rfl) rfl ?_
  refine ct_obj K 4 (ctW _ (List.mem_of_getElem? (i := 7) rfl)) (ctW _ (List.mem_of_getElem? (i := 0) rfl)) (ctW _ (List.mem_of_getElem? (i := 1) rfl)) (by decide +kernel) rfl (Nat.le_of_ble_eq_true rfl) (Nat.le_of_ble_eq_true rfl) ?_
  refine ct_aload K 5 0 (by decide +kernel) (lv_at hl 0 rfl) rfl ?_
  refine ct_iconst K 6 (n := 4) (4) (by decide +kernel) (by decide) rfl ?_
  refine ct_newa K 8 (atype := .int) (N := 4) (t0 := 0) (a0 := (4, .inl (fun _ => Int32.ofInt 0))) (by decide +kernel) rfl rfl (fun _ _ => rfl) (ctW _ (List.mem_of_getElem? (i := 2) rfl)) (fun _ => rfl) (by decide) (by decide) (Nat.le_of_ble_eq_true rfl) rfl (Nat.le_of_ble_eq_true rfl) (Nat.le_of_ble_eq_true rfl) (fun q0 => ?_)
  refine ct_putA K hname 11 (o := 5) (idx := 11) (ci := 5) (k := 0) (fs' := [.ref q0, .null, .null, .int 0, .int 0]) (by decide +kernel) rfl (by decide) (by decide) rfl rfl rfl (Nat.le_of_ble_eq_true rfl) rfl (by decide +kernel) rfl ?_
  refine ct_aload K 12 0 (by decide +kernel) (lv_at hl 0 rfl) rfl ?_
  refine ct_bipush K 14 (n := 24) (24) (by decide +kernel) (by decide) rfl ?_
  refine ct_newa K 16 (atype := .int) (N := 24) (t0 := 0) (a0 := (24, .inl (fun _ => Int32.ofInt 0))) (by decide +kernel) rfl rfl (fun _ _ => rfl) (ctW _ (List.mem_of_getElem? (i := 2) rfl)) (fun _ => rfl) (by decide) (by decide) (Nat.le_of_ble_eq_true rfl) rfl (Nat.le_of_ble_eq_true rfl) (Nat.le_of_ble_eq_true rfl) (fun q1 => ?_)
  refine ct_putA K hname 19 (o := 5) (idx := 15) (ci := 5) (k := 1) (fs' := [.ref q0, .ref q1, .null, .int 0, .int 0]) (by decide +kernel) rfl (by decide) (by decide) rfl rfl rfl (Nat.le_of_ble_eq_true rfl) rfl (by decide +kernel) rfl ?_
  refine ct_aload K 20 0 (by decide +kernel) (lv_at hl 0 rfl) rfl ?_
  refine ct_bipush K 22 (n := 15) (15) (by decide +kernel) (by decide) rfl ?_
  refine ct_newa K 24 (atype := .int) (N := 15) (t0 := 0) (a0 := (15, .inl (fun _ => Int32.ofInt 0))) (by decide +kernel) rfl rfl (fun _ _ => rfl) (ctW _ (List.mem_of_getElem? (i := 2) rfl)) (fun _ => rfl) (by decide) (by decide) (Nat.le_of_ble_eq_true rfl) rfl (Nat.le_of_ble_eq_true rfl) (Nat.le_of_ble_eq_true rfl) (fun q2 => ?_)
  refine ct_putA K hname 27 (o := 5) (idx := 18) (ci := 5) (k := 2) (fs' := [.ref q0, .ref q1, .ref q2, .int 0, .int 0]) (by decide +kernel) rfl (by decide) (by decide) rfl rfl rfl (Nat.le_of_ble_eq_true rfl) rfl (by decide +kernel) rfl ?_
  refine kret (fun i => [q0, q1, q2].getD i 0, fun g => ([] : List (Nat → Nat)).getD g (fun _ => 0)) 27 _ ?_ (by decide +kernel)
  simp only [List.append_assoc, List.cons_append, List.nil_append, ct_League_fs, ct_League_nw]
  try rfl
def ct_LeagueReader_fs (p1 : Nat) (v : Nat → Nat) (u : US) : List Value := [.ref (u.1 0), .ref p1, .int 0]
def ct_LeagueReader_nw (T v : Nat → Nat) (p1 : Nat) (u : US) : va_W := [(u.1 0, .inr (5, [.ref (u.1 1), .ref (u.1 2), .ref (u.1 3), .int 0, .int 0])), (u.1 1, .inl (T 0, 4, .inl (fun _ => Int32.ofInt 0))), (u.1 2, .inl (T 0, 24, .inl (fun _ => Int32.ofInt 0))), (u.1 3, .inl (T 0, 15, .inl (fun _ => Int32.ofInt 0)))]
set_option maxHeartbeats 4000000 in
set_option maxRecDepth 100000 in
theorem ct_LeagueReader (l : Launch) (D : va_G) (T v : Nat → Nat) (A : Nat → Prop) (h0 : Nat) (p1 : Nat) (ws : va_W) : Met l (⟨"CannonPost$LeagueReader", "<init>", "(LCannonPost$Tape;)V"⟩ : MethodName) (Cond.code (⟨"CannonPost$LeagueReader", "<init>", "(LCannonPost$Tape;)V"⟩ : MethodName) prog_8_method_1_code 2 none :: gT) (rmC 2 4 48) (CtP D T v A h0 6 [.null, .null, .int 0] [.ref p1] ws) (CtQ D A h0 6 (ct_LeagueReader_fs p1 v) ws (ct_LeagueReader_nw T v p1)) 4 48 A := by
  refine ct_met (by decide +kernel) rfl (Nat.le_of_ble_eq_true rfl) (fun p e s m args below meth c ls K hname hl kret => ?_)
  have hl : lv_has ls 2 [(0, .ref h0), (1, .ref p1)] := hl
  have K : CC p s m args c D T v A "CannonPost$LeagueReader" prog_8_method_1_code 2 ls := K
  refine ct_aload K 1 0 (by decide +kernel) (lv_at hl 0 rfl) rfl ?_
  refine ct_obj K 4 (ctW _ (List.mem_of_getElem? (i := 8) rfl)) (ctW _ (List.mem_of_getElem? (i := 0) rfl)) (ctW _ (List.mem_of_getElem? (i := 1) rfl)) (by decide +kernel) rfl (Nat.le_of_ble_eq_true rfl) (Nat.le_of_ble_eq_true rfl) ?_
  refine ct_aload K 5 0 (by decide +kernel) (lv_at hl 0 rfl) rfl ?_
  refine ct_new K 8 5 [.null, .null, .null, .int 0, .int 0] (by decide) (ctW _ (List.mem_of_getElem? (i := 9) rfl)) (ctW _ (List.mem_of_getElem? (i := 10) rfl)) (ctW _ (List.mem_of_getElem? (i := 11) rfl)) (by decide +kernel) (by decide +kernel) rfl (Nat.le_of_ble_eq_true rfl) (Nat.le_of_ble_eq_true rfl) (fun q0 => ?_)
  refine ct_dup K 9 (by decide +kernel) rfl ?_
  refine ct_callN (k := 1) (q := q0) (d := 1) (mc := 3) (ms := 43) (rest := [.ref q0, .ref h0]) K 12 (fun ws => ct_League l D T v A q0  ws) (ctW _ (List.mem_of_getElem? (i := 12) rfl)) (ctW _ (List.mem_of_getElem? (i := 11) rfl)) (List.mem_of_getElem? (i := 5) rfl) (ctW _ (List.mem_of_getElem? (i := 13) rfl)) (by decide +kernel) (by decide +kernel) rfl (Nat.le_of_ble_eq_true rfl) (Nat.le_of_ble_eq_true rfl) (Nat.le_of_ble_eq_true rfl) (Nat.le_of_ble_eq_true rfl) (Nat.le_of_ble_eq_true rfl) (fun u0 => ?_)
  refine ct_putA K hname 15 (o := 6) (idx := 12) (ci := 6) (k := 0) (fs' := [.ref q0, .null, .int 0]) (by decide +kernel) rfl (by decide) (by decide) rfl rfl rfl (Nat.le_of_ble_eq_true rfl) rfl (by decide +kernel) rfl ?_
  refine ct_aload K 16 0 (by decide +kernel) (lv_at hl 0 rfl) rfl ?_
  refine ct_aload K 17 1 (by decide +kernel) (lv_at hl 1 rfl) rfl ?_
  refine ct_put K hname 20 (o := 6) (idx := 18) (ci := 6) (k := 1) (fs' := [.ref q0, .ref p1, .int 0]) (by decide +kernel) rfl (by decide) (by decide) rfl rfl rfl (Nat.le_of_ble_eq_true rfl) rfl (by decide +kernel) rfl ?_
  refine kret (fun i => [q0, u0.1 0, u0.1 1, u0.1 2].getD i 0, fun g => ([] : List (Nat → Nat)).getD g (fun _ => 0)) 20 _ ?_ (by decide +kernel)
  simp only [List.append_assoc, List.cons_append, List.nil_append, ct_LeagueReader_fs, ct_LeagueReader_nw, ct_League_nw, ct_League_fs]
  try rfl
def ct_LawReader_fs (p1 : Nat) (v : Nat → Nat) (u : US) : List Value := [.ref (u.1 0), .int 0, .ref p1]
def ct_LawReader_nw (T v : Nat → Nat) (p1 : Nat) (u : US) : va_W := [(u.1 0, .inl (T 0, 240, .inl (fun _ => Int32.ofInt 0)))]
set_option maxHeartbeats 4000000 in
set_option maxRecDepth 100000 in
theorem ct_LawReader (l : Launch) (D : va_G) (T v : Nat → Nat) (A : Nat → Prop) (h0 : Nat) (p1 : Nat) (ws : va_W) : Met l (⟨"CannonPost$LawReader", "<init>", "(LCannonPost$Tape;)V"⟩ : MethodName) (Cond.code (⟨"CannonPost$LawReader", "<init>", "(LCannonPost$Tape;)V"⟩ : MethodName) prog_5_method_1_code 2 none :: gT) (rmC 1 1 240) (CtP D T v A h0 3 [.null, .int 0, .null] [.ref p1] ws) (CtQ D A h0 3 (ct_LawReader_fs p1 v) ws (ct_LawReader_nw T v p1)) 1 240 A := by
  refine ct_met (by decide +kernel) rfl (Nat.le_of_ble_eq_true rfl) (fun p e s m args below meth c ls K hname hl kret => ?_)
  have hl : lv_has ls 2 [(0, .ref h0), (1, .ref p1)] := hl
  have K : CC p s m args c D T v A "CannonPost$LawReader" prog_5_method_1_code 2 ls := K
  refine ct_aload K 1 0 (by decide +kernel) (lv_at hl 0 rfl) rfl ?_
  refine ct_obj K 4 (ctW _ (List.mem_of_getElem? (i := 14) rfl)) (ctW _ (List.mem_of_getElem? (i := 0) rfl)) (ctW _ (List.mem_of_getElem? (i := 1) rfl)) (by decide +kernel) rfl (Nat.le_of_ble_eq_true rfl) (Nat.le_of_ble_eq_true rfl) ?_
  refine ct_aload K 5 0 (by decide +kernel) (lv_at hl 0 rfl) rfl ?_
  refine ct_sipush K 8 (n := 240) (240) (by decide +kernel) (by decide) rfl ?_
  refine ct_newa K 10 (atype := .int) (N := 240) (t0 := 0) (a0 := (240, .inl (fun _ => Int32.ofInt 0))) (by decide +kernel) rfl rfl (fun _ _ => rfl) (ctW _ (List.mem_of_getElem? (i := 2) rfl)) (fun _ => rfl) (by decide) (by decide) (Nat.le_of_ble_eq_true rfl) rfl (Nat.le_of_ble_eq_true rfl) (Nat.le_of_ble_eq_true rfl) (fun q0 => ?_)
  refine ct_putA K hname 13 (o := 3) (idx := 11) (ci := 3) (k := 0) (fs' := [.ref q0, .int 0, .null]) (by decide +kernel) rfl (by decide) (by decide) rfl rfl rfl (Nat.le_of_ble_eq_true rfl) rfl (by decide +kernel) rfl ?_
  refine ct_aload K 14 0 (by decide +kernel) (lv_at hl 0 rfl) rfl ?_
  refine ct_aload K 15 1 (by decide +kernel) (lv_at hl 1 rfl) rfl ?_
  refine ct_put K hname 18 (o := 3) (idx := 17) (ci := 3) (k := 2) (fs' := [.ref q0, .int 0, .ref p1]) (by decide +kernel) rfl (by decide) (by decide) rfl rfl rfl (Nat.le_of_ble_eq_true rfl) rfl (by decide +kernel) rfl ?_
  refine kret (fun i => [q0].getD i 0, fun g => ([] : List (Nat → Nat)).getD g (fun _ => 0)) 18 _ ?_ (by decide +kernel)
  simp only [List.append_assoc, List.cons_append, List.nil_append, ct_LawReader_fs, ct_LawReader_nw]
  try rfl
def ct_Lawbook_fs (v : Nat → Nat) (u : US) : List Value := [.ref (u.1 0), .int 0, .int (-1), .ref (u.1 1), .ref (u.1 2), .ref (u.1 3)]
def ct_Lawbook_nw (T v : Nat → Nat) (u : US) : va_W := ([(u.1 0, .inl (T 0, 6, .inl (fun _ => Int32.ofInt 0))), (u.1 1, .inl (T 4, 4, .inr (.inr (.inr (.inr (fun i => if i < 4 then some (u.2 0 i) else none))))))] ++ ((List.range 4).map (fun i => (u.2 0 i, .inl (T 0, 240, .inl (fun _ => Int32.ofInt 0)))) ++ [(u.1 2, .inl (T 0, 4, .inl (fun _ => Int32.ofInt 0))), (u.1 3, .inl (T 0, 64, .inl (fun _ => Int32.ofInt 0)))]))
set_option maxHeartbeats 4000000 in
set_option maxRecDepth 100000 in
theorem ct_Lawbook (l : Launch) (D : va_G) (T v : Nat → Nat) (A : Nat → Prop) (h0 : Nat) (ws : va_W) : Met l (nwY 2) (Cond.code (nwY 2) prog_6_method_1_code 1 none :: gT) (rmC 1 8 1038) (CtP D T v A h0 4 [.null, .int 0, .int 0, .null, .null, .null] [] ws) (CtQ D A h0 4 (ct_Lawbook_fs v) ws (ct_Lawbook_nw T v)) 8 1038 A := by
  refine ct_met (by decide +kernel) rfl (Nat.le_of_ble_eq_true rfl) (fun p e s m args below meth c ls K hname hl kret => ?_)
  have hl : lv_has ls 1 [(0, .ref h0)] := hl
  have K : CC p s m args c D T v A "CannonPost$Lawbook" prog_6_method_1_code 1 ls := K
  refine ct_aload K 1 0 (by decide +kernel) (lv_at hl 0 rfl) rfl ?_
  refine ct_obj K 4 (ctW _ (List.mem_of_getElem? (i := 15) rfl)) (ctW _ (List.mem_of_getElem? (i := 0) rfl)) (ctW _ (List.mem_of_getElem? (i := 1) rfl)) (by decide +kernel) rfl (Nat.le_of_ble_eq_true rfl) (Nat.le_of_ble_eq_true rfl) ?_
  refine ct_aload K 5 0 (by decide +kernel) (lv_at hl 0 rfl) rfl ?_
  refine ct_bipush K 7 (n := 6) (6) (by decide +kernel) (by decide) rfl ?_
  refine ct_newa K 9 (atype := .int) (N := 6) (t0 := 0) (a0 := (6, .inl (fun _ => Int32.ofInt 0))) (by decide +kernel) rfl rfl (fun _ _ => rfl) (ctW _ (List.mem_of_getElem? (i := 2) rfl)) (fun _ => rfl) (by decide) (by decide) (Nat.le_of_ble_eq_true rfl) rfl (Nat.le_of_ble_eq_true rfl) (Nat.le_of_ble_eq_true rfl) (fun q0 => ?_)
  refine ct_putA K hname 12 (o := 4) (idx := 9) (ci := 4) (k := 0) (fs' := [.ref q0, .int 0, .int 0, .null, .null, .null]) (by decide +kernel) rfl (by decide) (by decide) rfl rfl rfl (Nat.le_of_ble_eq_true rfl) rfl (by decide +kernel) rfl ?_
  refine ct_aload K 13 0 (by decide +kernel) (lv_at hl 0 rfl) rfl ?_
  refine ct_iconst K 14 (n := -1) (-1) (by decide +kernel) (by decide) rfl ?_
  refine ct_put K hname 17 (o := 4) (idx := 15) (ci := 4) (k := 2) (fs' := [.ref q0, .int 0, .int (-1), .null, .null, .null]) (by decide +kernel) rfl (by decide) (by decide) rfl rfl rfl (Nat.le_of_ble_eq_true rfl) rfl (by decide +kernel) rfl ?_
  refine ct_aload K 18 0 (by decide +kernel) (lv_at hl 0 rfl) rfl ?_
  refine ct_iconst K 19 (n := 4) (4) (by decide +kernel) (by decide) rfl ?_
  refine ct_sipush K 22 (n := 240) (240) (by decide +kernel) (by decide) rfl ?_
  refine ct_mna K 26 4 240 (ctW _ (List.mem_of_getElem? (i := 16) rfl)) (ctW _ (List.mem_of_getElem? (i := 2) rfl)) (by decide +kernel) (by decide) (by decide) (by decide) (by decide) (Nat.le_of_ble_eq_true rfl) (Nat.le_of_ble_eq_true rfl) rfl (Nat.le_of_ble_eq_true rfl) (Nat.le_of_ble_eq_true rfl) (fun q1 r0 => ?_)
  refine ct_putA K hname 29 (o := 4) (idx := 23) (ci := 4) (k := 3) (fs' := [.ref q0, .int 0, .int (-1), .ref q1, .null, .null]) (by decide +kernel) rfl (by decide) (by decide) rfl rfl rfl (Nat.le_of_ble_eq_true rfl) rfl (by decide +kernel) rfl ?_
  refine ct_aload K 30 0 (by decide +kernel) (lv_at hl 0 rfl) rfl ?_
  refine ct_iconst K 31 (n := 4) (4) (by decide +kernel) (by decide) rfl ?_
  refine ct_newa K 33 (atype := .int) (N := 4) (t0 := 0) (a0 := (4, .inl (fun _ => Int32.ofInt 0))) (by decide +kernel) rfl rfl (fun _ _ => rfl) (ctW _ (List.mem_of_getElem? (i := 2) rfl)) (fun _ => rfl) (by decide) (by decide) (Nat.le_of_ble_eq_true rfl) rfl (Nat.le_of_ble_eq_true rfl) (Nat.le_of_ble_eq_true rfl) (fun q2 => ?_)
  refine ct_putA K hname 36 (o := 4) (idx := 26) (ci := 4) (k := 4) (fs' := [.ref q0, .int 0, .int (-1), .ref q1, .ref q2, .null]) (by decide +kernel) rfl (by decide) (by decide) rfl rfl rfl (Nat.le_of_ble_eq_true rfl) rfl (by decide +kernel) rfl ?_
  refine ct_aload K 37 0 (by decide +kernel) (lv_at hl 0 rfl) rfl ?_
  refine ct_bipush K 39 (n := 64) (64) (by decide +kernel) (by decide) rfl ?_
  refine ct_newa K 41 (atype := .int) (N := 64) (t0 := 0) (a0 := (64, .inl (fun _ => Int32.ofInt 0))) (by decide +kernel) rfl rfl (fun _ _ => rfl) (ctW _ (List.mem_of_getElem? (i := 2) rfl)) (fun _ => rfl) (by decide) (by decide) (Nat.le_of_ble_eq_true rfl) rfl (Nat.le_of_ble_eq_true rfl) (Nat.le_of_ble_eq_true rfl) (fun q3 => ?_)
  refine ct_putA K hname 44 (o := 4) (idx := 29) (ci := 4) (k := 5) (fs' := [.ref q0, .int 0, .int (-1), .ref q1, .ref q2, .ref q3]) (by decide +kernel) rfl (by decide) (by decide) rfl rfl rfl (Nat.le_of_ble_eq_true rfl) rfl (by decide +kernel) rfl ?_
  refine kret (fun i => [q0, q1, q2, q3].getD i 0, fun g => [r0].getD g (fun _ => 0)) 44 _ ?_ (by decide +kernel)
  simp only [List.append_assoc, List.cons_append, List.nil_append, ct_Lawbook_fs, ct_Lawbook_nw]
  try rfl
def ct_Planbook_fs (p1 : Nat) (v : Nat → Nat) (u : US) : List Value := [.ref (u.1 0), .int 0, .ref (u.1 1), .ref (u.1 2), .int 0, .ref p1]
def ct_Planbook_nw (T v : Nat → Nat) (p1 : Nat) (u : US) : va_W := ([(u.1 0, .inl (T 0, 4, .inl (fun _ => Int32.ofInt 0))), (u.1 1, .inl (T 4, 4, .inr (.inr (.inr (.inr (fun i => if i < 4 then some (u.2 0 i) else none))))))] ++ ((List.range 4).map (fun i => (u.2 0 i, .inl (T 0, 64, .inl (fun _ => Int32.ofInt 0)))) ++ [(u.1 2, .inl (T 0, 64, .inl (fun _ => Int32.ofInt 0)))]))
set_option maxHeartbeats 4000000 in
set_option maxRecDepth 100000 in
theorem ct_Planbook (l : Launch) (D : va_G) (T v : Nat → Nat) (A : Nat → Prop) (h0 : Nat) (p1 : Nat) (ws : va_W) : Met l (⟨"CannonPost$Planbook", "<init>", "(LCannonPost$Tape;)V"⟩ : MethodName) (Cond.code (⟨"CannonPost$Planbook", "<init>", "(LCannonPost$Tape;)V"⟩ : MethodName) prog_10_method_1_code 2 none :: gT) (rmC 1 7 328) (CtP D T v A h0 8 [.null, .int 0, .null, .null, .int 0, .null] [.ref p1] ws) (CtQ D A h0 8 (ct_Planbook_fs p1 v) ws (ct_Planbook_nw T v p1)) 7 328 A := by
  refine ct_met (by decide +kernel) rfl (Nat.le_of_ble_eq_true rfl) (fun p e s m args below meth c ls K hname hl kret => ?_)
  have hl : lv_has ls 2 [(0, .ref h0), (1, .ref p1)] := hl
  have K : CC p s m args c D T v A "CannonPost$Planbook" prog_10_method_1_code 2 ls := K
  refine ct_aload K 1 0 (by decide +kernel) (lv_at hl 0 rfl) rfl ?_
  refine ct_obj K 4 (ctW _ (List.mem_of_getElem? (i := 17) rfl)) (ctW _ (List.mem_of_getElem? (i := 0) rfl)) (ctW _ (List.mem_of_getElem? (i := 1) rfl)) (by decide +kernel) rfl (Nat.le_of_ble_eq_true rfl) (Nat.le_of_ble_eq_true rfl) ?_
  refine ct_aload K 5 0 (by decide +kernel) (lv_at hl 0 rfl) rfl ?_
  refine ct_iconst K 6 (n := 4) (4) (by decide +kernel) (by decide) rfl ?_
  refine ct_newa K 8 (atype := .int) (N := 4) (t0 := 0) (a0 := (4, .inl (fun _ => Int32.ofInt 0))) (by decide +kernel) rfl rfl (fun _ _ => rfl) (ctW _ (List.mem_of_getElem? (i := 2) rfl)) (fun _ => rfl) (by decide) (by decide) (Nat.le_of_ble_eq_true rfl) rfl (Nat.le_of_ble_eq_true rfl) (Nat.le_of_ble_eq_true rfl) (fun q0 => ?_)
  refine ct_putA K hname 11 (o := 8) (idx := 11) (ci := 8) (k := 0) (fs' := [.ref q0, .int 0, .null, .null, .int 0, .null]) (by decide +kernel) rfl (by decide) (by decide) rfl rfl rfl (Nat.le_of_ble_eq_true rfl) rfl (by decide +kernel) rfl ?_
  refine ct_aload K 12 0 (by decide +kernel) (lv_at hl 0 rfl) rfl ?_
  refine ct_iconst K 13 (n := 4) (4) (by decide +kernel) (by decide) rfl ?_
  refine ct_bipush K 15 (n := 64) (64) (by decide +kernel) (by decide) rfl ?_
  refine ct_mna K 19 4 64 (ctW _ (List.mem_of_getElem? (i := 18) rfl)) (ctW _ (List.mem_of_getElem? (i := 2) rfl)) (by decide +kernel) (by decide) (by decide) (by decide) (by decide) (Nat.le_of_ble_eq_true rfl) (Nat.le_of_ble_eq_true rfl) rfl (Nat.le_of_ble_eq_true rfl) (Nat.le_of_ble_eq_true rfl) (fun q1 r0 => ?_)
  refine ct_putA K hname 22 (o := 8) (idx := 17) (ci := 8) (k := 2) (fs' := [.ref q0, .int 0, .ref q1, .null, .int 0, .null]) (by decide +kernel) rfl (by decide) (by decide) rfl rfl rfl (Nat.le_of_ble_eq_true rfl) rfl (by decide +kernel) rfl ?_
  refine ct_aload K 23 0 (by decide +kernel) (lv_at hl 0 rfl) rfl ?_
  refine ct_bipush K 25 (n := 64) (64) (by decide +kernel) (by decide) rfl ?_
  refine ct_newa K 27 (atype := .int) (N := 64) (t0 := 0) (a0 := (64, .inl (fun _ => Int32.ofInt 0))) (by decide +kernel) rfl rfl (fun _ _ => rfl) (ctW _ (List.mem_of_getElem? (i := 2) rfl)) (fun _ => rfl) (by decide) (by decide) (Nat.le_of_ble_eq_true rfl) rfl (Nat.le_of_ble_eq_true rfl) (Nat.le_of_ble_eq_true rfl) (fun q2 => ?_)
  refine ct_putA K hname 30 (o := 8) (idx := 20) (ci := 8) (k := 3) (fs' := [.ref q0, .int 0, .ref q1, .ref q2, .int 0, .null]) (by decide +kernel) rfl (by decide) (by decide) rfl rfl rfl (Nat.le_of_ble_eq_true rfl) rfl (by decide +kernel) rfl ?_
  refine ct_aload K 31 0 (by decide +kernel) (lv_at hl 0 rfl) rfl ?_
  refine ct_aload K 32 1 (by decide +kernel) (lv_at hl 1 rfl) rfl ?_
  refine ct_put K hname 35 (o := 8) (idx := 23) (ci := 8) (k := 5) (fs' := [.ref q0, .int 0, .ref q1, .ref q2, .int 0, .ref p1]) (by decide +kernel) rfl (by decide) (by decide) rfl rfl rfl (Nat.le_of_ble_eq_true rfl) rfl (by decide +kernel) rfl ?_
  refine kret (fun i => [q0, q1, q2].getD i 0, fun g => [r0].getD g (fun _ => 0)) 35 _ ?_ (by decide +kernel)
  simp only [List.append_assoc, List.cons_append, List.nil_append, ct_Planbook_fs, ct_Planbook_nw]
  try rfl
def ct_Flight_fs (p1 p2 : Nat) (v : Nat → Nat) (u : US) : List Value := [.ref p1, .ref p2, .ref (u.1 0), .ref (u.1 1)]
def ct_Flight_nw (T v : Nat → Nat) (p1 p2 : Nat) (u : US) : va_W := [(u.1 0, .inl (T 0, 320, .inl (fun _ => Int32.ofInt 0))), (u.1 1, .inl (T 0, 40, .inl (fun _ => Int32.ofInt 0)))]
set_option maxHeartbeats 4000000 in
set_option maxRecDepth 100000 in
theorem ct_Flight (l : Launch) (D : va_G) (T v : Nat → Nat) (A : Nat → Prop) (h0 : Nat) (p1 p2 : Nat) (ws : va_W) : Met l (⟨"CannonPost$Flight", "<init>", "(LCannonPost$League;LCannonPost$Lawbook;)V"⟩ : MethodName) (Cond.code (⟨"CannonPost$Flight", "<init>", "(LCannonPost$League;LCannonPost$Lawbook;)V"⟩ : MethodName) prog_2_method_1_code 3 none :: gT) (rmC 1 2 360) (CtP D T v A h0 0 [.null, .null, .null, .null] [.ref p1, .ref p2] ws) (CtQ D A h0 0 (ct_Flight_fs p1 p2 v) ws (ct_Flight_nw T v p1 p2)) 2 360 A := by
  refine ct_met (by decide +kernel) rfl (Nat.le_of_ble_eq_true rfl) (fun p e s m args below meth c ls K hname hl kret => ?_)
  have hl : lv_has ls 3 [(0, .ref h0), (1, .ref p1), (2, .ref p2)] := hl
  have K : CC p s m args c D T v A "CannonPost$Flight" prog_2_method_1_code 3 ls := K
  refine ct_aload K 1 0 (by decide +kernel) (lv_at hl 0 rfl) rfl ?_
  refine ct_obj K 4 (ctW _ (List.mem_of_getElem? (i := 19) rfl)) (ctW _ (List.mem_of_getElem? (i := 0) rfl)) (ctW _ (List.mem_of_getElem? (i := 1) rfl)) (by decide +kernel) rfl (Nat.le_of_ble_eq_true rfl) (Nat.le_of_ble_eq_true rfl) ?_
  refine ct_aload K 5 0 (by decide +kernel) (lv_at hl 0 rfl) rfl ?_
  refine ct_sipush K 8 (n := 320) (320) (by decide +kernel) (by decide) rfl ?_
  refine ct_newa K 10 (atype := .int) (N := 320) (t0 := 0) (a0 := (320, .inl (fun _ => Int32.ofInt 0))) (by decide +kernel) rfl rfl (fun _ _ => rfl) (ctW _ (List.mem_of_getElem? (i := 2) rfl)) (fun _ => rfl) (by decide) (by decide) (Nat.le_of_ble_eq_true rfl) rfl (Nat.le_of_ble_eq_true rfl) (Nat.le_of_ble_eq_true rfl) (fun q0 => ?_)
  refine ct_putA K hname 13 (o := 0) (idx := 13) (ci := 0) (k := 2) (fs' := [.null, .null, .ref q0, .null]) (by decide +kernel) rfl (by decide) (by decide) rfl rfl rfl (Nat.le_of_ble_eq_true rfl) rfl (by decide +kernel) rfl ?_
  refine ct_aload K 14 0 (by decide +kernel) (lv_at hl 0 rfl) rfl ?_
  refine ct_bipush K 16 (n := 40) (40) (by decide +kernel) (by decide) rfl ?_
  refine ct_newa K 18 (atype := .int) (N := 40) (t0 := 0) (a0 := (40, .inl (fun _ => Int32.ofInt 0))) (by decide +kernel) rfl rfl (fun _ _ => rfl) (ctW _ (List.mem_of_getElem? (i := 2) rfl)) (fun _ => rfl) (by decide) (by decide) (Nat.le_of_ble_eq_true rfl) rfl (Nat.le_of_ble_eq_true rfl) (Nat.le_of_ble_eq_true rfl) (fun q1 => ?_)
  refine ct_putA K hname 21 (o := 0) (idx := 17) (ci := 0) (k := 3) (fs' := [.null, .null, .ref q0, .ref q1]) (by decide +kernel) rfl (by decide) (by decide) rfl rfl rfl (Nat.le_of_ble_eq_true rfl) rfl (by decide +kernel) rfl ?_
  refine ct_aload K 22 0 (by decide +kernel) (lv_at hl 0 rfl) rfl ?_
  refine ct_aload K 23 1 (by decide +kernel) (lv_at hl 1 rfl) rfl ?_
  refine ct_put K hname 26 (o := 0) (idx := 20) (ci := 0) (k := 0) (fs' := [.ref p1, .null, .ref q0, .ref q1]) (by decide +kernel) rfl (by decide) (by decide) rfl rfl rfl (Nat.le_of_ble_eq_true rfl) rfl (by decide +kernel) rfl ?_
  refine ct_aload K 27 0 (by decide +kernel) (lv_at hl 0 rfl) rfl ?_
  refine ct_aload K 28 2 (by decide +kernel) (lv_at hl 2 rfl) rfl ?_
  refine ct_put K hname 31 (o := 0) (idx := 24) (ci := 0) (k := 1) (fs' := [.ref p1, .ref p2, .ref q0, .ref q1]) (by decide +kernel) rfl (by decide) (by decide) rfl rfl rfl (Nat.le_of_ble_eq_true rfl) rfl (by decide +kernel) rfl ?_
  refine kret (fun i => [q0, q1].getD i 0, fun g => ([] : List (Nat → Nat)).getD g (fun _ => 0)) 31 _ ?_ (by decide +kernel)
  simp only [List.append_assoc, List.cons_append, List.nil_append, ct_Flight_fs, ct_Flight_nw]
  try rfl
def ct_Paths_fs (p1 p2 : Nat) (v : Nat → Nat) (u : US) : List Value := [.ref (u.1 0), .ref (u.1 1), .ref (u.1 2), .ref (u.1 3), .ref (u.1 4), .ref p1, .ref p2]
def ct_Paths_nw (T v : Nat → Nat) (p1 p2 : Nat) (u : US) : va_W := [(u.1 0, .inl (T 0, 8, .inl (fun _ => Int32.ofInt 0))), (u.1 1, .inl (T 0, 8, .inl (fun _ => Int32.ofInt 0))), (u.1 2, .inl (T 0, 8, .inl (fun _ => Int32.ofInt 0))), (u.1 3, .inl (T 0, 8, .inl (fun _ => Int32.ofInt 0))), (u.1 4, .inl (T 0, 5, .inl (fun _ => Int32.ofInt 0)))]
set_option maxHeartbeats 4000000 in
set_option maxRecDepth 100000 in
theorem ct_Paths (l : Launch) (D : va_G) (T v : Nat → Nat) (A : Nat → Prop) (h0 : Nat) (p1 p2 : Nat) (ws : va_W) : Met l (⟨"CannonPost$Paths", "<init>", "(LCannonPost$League;LCannonPost$Flight;)V"⟩ : MethodName) (Cond.code (⟨"CannonPost$Paths", "<init>", "(LCannonPost$League;LCannonPost$Flight;)V"⟩ : MethodName) prog_9_method_1_code 3 none :: gT) (rmC 1 5 37) (CtP D T v A h0 7 [.null, .null, .null, .null, .null, .null, .null] [.ref p1, .ref p2] ws) (CtQ D A h0 7 (ct_Paths_fs p1 p2 v) ws (ct_Paths_nw T v p1 p2)) 5 37 A := by
  refine ct_met (by decide +kernel) rfl (Nat.le_of_ble_eq_true rfl) (fun p e s m args below meth c ls K hname hl kret => ?_)
  have hl : lv_has ls 3 [(0, .ref h0), (1, .ref p1), (2, .ref p2)] := hl
  have K : CC p s m args c D T v A "CannonPost$Paths" prog_9_method_1_code 3 ls := K
  refine ct_aload K 1 0 (by decide +kernel) (lv_at hl 0 rfl) rfl ?_
  refine ct_obj K 4 (ctW _ (List.mem_of_getElem? (i := 20) rfl)) (ctW _ (List.mem_of_getElem? (i := 0) rfl)) (ctW _ (List.mem_of_getElem? (i := 1) rfl)) (by decide +kernel) rfl (Nat.le_of_ble_eq_true rfl) (Nat.le_of_ble_eq_true rfl) ?_
  refine ct_aload K 5 0 (by decide +kernel) (lv_at hl 0 rfl) rfl ?_
  refine ct_bipush K 7 (n := 8) (8) (by decide +kernel) (by decide) rfl ?_
  refine ct_newa K 9 (atype := .int) (N := 8) (t0 := 0) (a0 := (8, .inl (fun _ => Int32.ofInt 0))) (by decide +kernel) rfl rfl (fun _ _ => rfl) (ctW _ (List.mem_of_getElem? (i := 2) rfl)) (fun _ => rfl) (by decide) (by decide) (Nat.le_of_ble_eq_true rfl) rfl (Nat.le_of_ble_eq_true rfl) (Nat.le_of_ble_eq_true rfl) (fun q0 => ?_)
  refine ct_putA K hname 12 (o := 7) (idx := 11) (ci := 7) (k := 0) (fs' := [.ref q0, .null, .null, .null, .null, .null, .null]) (by decide +kernel) rfl (by decide) (by decide) rfl rfl rfl (Nat.le_of_ble_eq_true rfl) rfl (by decide +kernel) rfl ?_
  refine ct_aload K 13 0 (by decide +kernel) (lv_at hl 0 rfl) rfl ?_
  refine ct_bipush K 15 (n := 8) (8) (by decide +kernel) (by decide) rfl ?_
  refine ct_newa K 17 (atype := .int) (N := 8) (t0 := 0) (a0 := (8, .inl (fun _ => Int32.ofInt 0))) (by decide +kernel) rfl rfl (fun _ _ => rfl) (ctW _ (List.mem_of_getElem? (i := 2) rfl)) (fun _ => rfl) (by decide) (by decide) (Nat.le_of_ble_eq_true rfl) rfl (Nat.le_of_ble_eq_true rfl) (Nat.le_of_ble_eq_true rfl) (fun q1 => ?_)
  refine ct_putA K hname 20 (o := 7) (idx := 17) (ci := 7) (k := 1) (fs' := [.ref q0, .ref q1, .null, .null, .null, .null, .null]) (by decide +kernel) rfl (by decide) (by decide) rfl rfl rfl (Nat.le_of_ble_eq_true rfl) rfl (by decide +kernel) rfl ?_
  refine ct_aload K 21 0 (by decide +kernel) (lv_at hl 0 rfl) rfl ?_
  refine ct_bipush K 23 (n := 8) (8) (by decide +kernel) (by decide) rfl ?_
  refine ct_newa K 25 (atype := .int) (N := 8) (t0 := 0) (a0 := (8, .inl (fun _ => Int32.ofInt 0))) (by decide +kernel) rfl rfl (fun _ _ => rfl) (ctW _ (List.mem_of_getElem? (i := 2) rfl)) (fun _ => rfl) (by decide) (by decide) (Nat.le_of_ble_eq_true rfl) rfl (Nat.le_of_ble_eq_true rfl) (Nat.le_of_ble_eq_true rfl) (fun q2 => ?_)
  refine ct_putA K hname 28 (o := 7) (idx := 20) (ci := 7) (k := 2) (fs' := [.ref q0, .ref q1, .ref q2, .null, .null, .null, .null]) (by decide +kernel) rfl (by decide) (by decide) rfl rfl rfl (Nat.le_of_ble_eq_true rfl) rfl (by decide +kernel) rfl ?_
  refine ct_aload K 29 0 (by decide +kernel) (lv_at hl 0 rfl) rfl ?_
  refine ct_bipush K 31 (n := 8) (8) (by decide +kernel) (by decide) rfl ?_
  refine ct_newa K 33 (atype := .int) (N := 8) (t0 := 0) (a0 := (8, .inl (fun _ => Int32.ofInt 0))) (by decide +kernel) rfl rfl (fun _ _ => rfl) (ctW _ (List.mem_of_getElem? (i := 2) rfl)) (fun _ => rfl) (by decide) (by decide) (Nat.le_of_ble_eq_true rfl) rfl (Nat.le_of_ble_eq_true rfl) (Nat.le_of_ble_eq_true rfl) (fun q3 => ?_)
  refine ct_putA K hname 36 (o := 7) (idx := 23) (ci := 7) (k := 3) (fs' := [.ref q0, .ref q1, .ref q2, .ref q3, .null, .null, .null]) (by decide +kernel) rfl (by decide) (by decide) rfl rfl rfl (Nat.le_of_ble_eq_true rfl) rfl (by decide +kernel) rfl ?_
  refine ct_aload K 37 0 (by decide +kernel) (lv_at hl 0 rfl) rfl ?_
  refine ct_iconst K 38 (n := 5) (5) (by decide +kernel) (by decide) rfl ?_
  refine ct_newa K 40 (atype := .int) (N := 5) (t0 := 0) (a0 := (5, .inl (fun _ => Int32.ofInt 0))) (by decide +kernel) rfl rfl (fun _ _ => rfl) (ctW _ (List.mem_of_getElem? (i := 2) rfl)) (fun _ => rfl) (by decide) (by decide) (Nat.le_of_ble_eq_true rfl) rfl (Nat.le_of_ble_eq_true rfl) (Nat.le_of_ble_eq_true rfl) (fun q4 => ?_)
  refine ct_putA K hname 43 (o := 7) (idx := 26) (ci := 7) (k := 4) (fs' := [.ref q0, .ref q1, .ref q2, .ref q3, .ref q4, .null, .null]) (by decide +kernel) rfl (by decide) (by decide) rfl rfl rfl (Nat.le_of_ble_eq_true rfl) rfl (by decide +kernel) rfl ?_
  refine ct_aload K 44 0 (by decide +kernel) (lv_at hl 0 rfl) rfl ?_
  refine ct_aload K 45 1 (by decide +kernel) (lv_at hl 1 rfl) rfl ?_
  refine ct_put K hname 48 (o := 7) (idx := 29) (ci := 7) (k := 5) (fs' := [.ref q0, .ref q1, .ref q2, .ref q3, .ref q4, .ref p1, .null]) (by decide +kernel) rfl (by decide) (by decide) rfl rfl rfl (Nat.le_of_ble_eq_true rfl) rfl (by decide +kernel) rfl ?_
  refine ct_aload K 49 0 (by decide +kernel) (lv_at hl 0 rfl) rfl ?_
  refine ct_aload K 50 2 (by decide +kernel) (lv_at hl 2 rfl) rfl ?_
  refine ct_put K hname 53 (o := 7) (idx := 33) (ci := 7) (k := 6) (fs' := [.ref q0, .ref q1, .ref q2, .ref q3, .ref q4, .ref p1, .ref p2]) (by decide +kernel) rfl (by decide) (by decide) rfl rfl rfl (Nat.le_of_ble_eq_true rfl) rfl (by decide +kernel) rfl ?_
  refine kret (fun i => [q0, q1, q2, q3, q4].getD i 0, fun g => ([] : List (Nat → Nat)).getD g (fun _ => 0)) 53 _ ?_ (by decide +kernel)
  simp only [List.append_assoc, List.cons_append, List.nil_append, ct_Paths_fs, ct_Paths_nw]
  try rfl
def ct_Guesses_fs (p1 p2 : Nat) (v : Nat → Nat) (u : US) : List Value := [.ref (u.1 0), .int 0, .int 0, .int 0, .ref (u.1 1), .ref (u.1 2), .ref (u.1 3), .ref (u.1 4), .ref p1, .ref p2]
def ct_Guesses_nw (T v : Nat → Nat) (p1 p2 : Nat) (u : US) : va_W := [(u.1 0, .inl (T 0, 20, .inl (fun _ => Int32.ofInt 0))), (u.1 1, .inl (T 0, 50, .inl (fun _ => Int32.ofInt 0))), (u.1 2, .inl (T 0, 61, .inl (fun _ => Int32.ofInt 0))), (u.1 3, .inl (T 0, 12, .inl (fun _ => Int32.ofInt 0))), (u.1 4, .inl (T 2, 12, .inl (fun _ => Int32.ofInt 0)))]
set_option maxHeartbeats 4000000 in
set_option maxRecDepth 100000 in
theorem ct_Guesses (l : Launch) (D : va_G) (T v : Nat → Nat) (A : Nat → Prop) (h0 : Nat) (p1 p2 : Nat) (ws : va_W) : Met l (⟨"CannonPost$Guesses", "<init>", "(LCannonPost$League;LCannonPost$Flight;)V"⟩ : MethodName) (Cond.code (⟨"CannonPost$Guesses", "<init>", "(LCannonPost$League;LCannonPost$Flight;)V"⟩ : MethodName) prog_3_method_1_code 3 none :: gT) (rmC 1 5 155) (CtP D T v A h0 1 [.null, .int 0, .int 0, .int 0, .null, .null, .null, .null, .null, .null] [.ref p1, .ref p2] ws) (CtQ D A h0 1 (ct_Guesses_fs p1 p2 v) ws (ct_Guesses_nw T v p1 p2)) 5 155 A := by
  refine ct_met (by decide +kernel) rfl (Nat.le_of_ble_eq_true rfl) (fun p e s m args below meth c ls K hname hl kret => ?_)
  have hl : lv_has ls 3 [(0, .ref h0), (1, .ref p1), (2, .ref p2)] := hl
  have K : CC p s m args c D T v A "CannonPost$Guesses" prog_3_method_1_code 3 ls := K
  refine ct_aload K 1 0 (by decide +kernel) (lv_at hl 0 rfl) rfl ?_
  refine ct_obj K 4 (ctW _ (List.mem_of_getElem? (i := 21) rfl)) (ctW _ (List.mem_of_getElem? (i := 0) rfl)) (ctW _ (List.mem_of_getElem? (i := 1) rfl)) (by decide +kernel) rfl (Nat.le_of_ble_eq_true rfl) (Nat.le_of_ble_eq_true rfl) ?_
  refine ct_aload K 5 0 (by decide +kernel) (lv_at hl 0 rfl) rfl ?_
  refine ct_bipush K 7 (n := 20) (20) (by decide +kernel) (by decide) rfl ?_
  refine ct_newa K 9 (atype := .int) (N := 20) (t0 := 0) (a0 := (20, .inl (fun _ => Int32.ofInt 0))) (by decide +kernel) rfl rfl (fun _ _ => rfl) (ctW _ (List.mem_of_getElem? (i := 2) rfl)) (fun _ => rfl) (by decide) (by decide) (Nat.le_of_ble_eq_true rfl) rfl (Nat.le_of_ble_eq_true rfl) (Nat.le_of_ble_eq_true rfl) (fun q0 => ?_)
  refine ct_putA K hname 12 (o := 1) (idx := 11) (ci := 1) (k := 0) (fs' := [.ref q0, .int 0, .int 0, .int 0, .null, .null, .null, .null, .null, .null]) (by decide +kernel) rfl (by decide) (by decide) rfl rfl rfl (Nat.le_of_ble_eq_true rfl) rfl (by decide +kernel) rfl ?_
  refine ct_aload K 13 0 (by decide +kernel) (lv_at hl 0 rfl) rfl ?_
  refine ct_bipush K 15 (n := 50) (50) (by decide +kernel) (by decide) rfl ?_
  refine ct_newa K 17 (atype := .int) (N := 50) (t0 := 0) (a0 := (50, .inl (fun _ => Int32.ofInt 0))) (by decide +kernel) rfl rfl (fun _ _ => rfl) (ctW _ (List.mem_of_getElem? (i := 2) rfl)) (fun _ => rfl) (by decide) (by decide) (Nat.le_of_ble_eq_true rfl) rfl (Nat.le_of_ble_eq_true rfl) (Nat.le_of_ble_eq_true rfl) (fun q1 => ?_)
  refine ct_putA K hname 20 (o := 1) (idx := 15) (ci := 1) (k := 4) (fs' := [.ref q0, .int 0, .int 0, .int 0, .ref q1, .null, .null, .null, .null, .null]) (by decide +kernel) rfl (by decide) (by decide) rfl rfl rfl (Nat.le_of_ble_eq_true rfl) rfl (by decide +kernel) rfl ?_
  refine ct_aload K 21 0 (by decide +kernel) (lv_at hl 0 rfl) rfl ?_
  refine ct_bipush K 23 (n := 61) (61) (by decide +kernel) (by decide) rfl ?_
  refine ct_newa K 25 (atype := .int) (N := 61) (t0 := 0) (a0 := (61, .inl (fun _ => Int32.ofInt 0))) (by decide +kernel) rfl rfl (fun _ _ => rfl) (ctW _ (List.mem_of_getElem? (i := 2) rfl)) (fun _ => rfl) (by decide) (by decide) (Nat.le_of_ble_eq_true rfl) rfl (Nat.le_of_ble_eq_true rfl) (Nat.le_of_ble_eq_true rfl) (fun q2 => ?_)
  refine ct_putA K hname 28 (o := 1) (idx := 20) (ci := 1) (k := 5) (fs' := [.ref q0, .int 0, .int 0, .int 0, .ref q1, .ref q2, .null, .null, .null, .null]) (by decide +kernel) rfl (by decide) (by decide) rfl rfl rfl (Nat.le_of_ble_eq_true rfl) rfl (by decide +kernel) rfl ?_
  refine ct_aload K 29 0 (by decide +kernel) (lv_at hl 0 rfl) rfl ?_
  refine ct_bipush K 31 (n := 12) (12) (by decide +kernel) (by decide) rfl ?_
  refine ct_newa K 33 (atype := .int) (N := 12) (t0 := 0) (a0 := (12, .inl (fun _ => Int32.ofInt 0))) (by decide +kernel) rfl rfl (fun _ _ => rfl) (ctW _ (List.mem_of_getElem? (i := 2) rfl)) (fun _ => rfl) (by decide) (by decide) (Nat.le_of_ble_eq_true rfl) rfl (Nat.le_of_ble_eq_true rfl) (Nat.le_of_ble_eq_true rfl) (fun q3 => ?_)
  refine ct_putA K hname 36 (o := 1) (idx := 23) (ci := 1) (k := 6) (fs' := [.ref q0, .int 0, .int 0, .int 0, .ref q1, .ref q2, .ref q3, .null, .null, .null]) (by decide +kernel) rfl (by decide) (by decide) rfl rfl rfl (Nat.le_of_ble_eq_true rfl) rfl (by decide +kernel) rfl ?_
  refine ct_aload K 37 0 (by decide +kernel) (lv_at hl 0 rfl) rfl ?_
  refine ct_bipush K 39 (n := 12) (12) (by decide +kernel) (by decide) rfl ?_
  refine ct_newa K 41 (atype := .boolean) (N := 12) (t0 := 2) (a0 := (12, .inl (fun _ => Int32.ofInt 0))) (by decide +kernel) rfl rfl (fun _ _ => rfl) (ctW _ (List.mem_of_getElem? (i := 4) rfl)) (fun _ => rfl) (by decide) (by decide) (Nat.le_of_ble_eq_true rfl) rfl (Nat.le_of_ble_eq_true rfl) (Nat.le_of_ble_eq_true rfl) (fun q4 => ?_)
  refine ct_putA K hname 44 (o := 1) (idx := 26) (ci := 1) (k := 7) (fs' := [.ref q0, .int 0, .int 0, .int 0, .ref q1, .ref q2, .ref q3, .ref q4, .null, .null]) (by decide +kernel) rfl (by decide) (by decide) rfl rfl rfl (Nat.le_of_ble_eq_true rfl) rfl (by decide +kernel) rfl ?_
  refine ct_aload K 45 0 (by decide +kernel) (lv_at hl 0 rfl) rfl ?_
  refine ct_aload K 46 1 (by decide +kernel) (lv_at hl 1 rfl) rfl ?_
  refine ct_put K hname 49 (o := 1) (idx := 30) (ci := 1) (k := 8) (fs' := [.ref q0, .int 0, .int 0, .int 0, .ref q1, .ref q2, .ref q3, .ref q4, .ref p1, .null]) (by decide +kernel) rfl (by decide) (by decide) rfl rfl rfl (Nat.le_of_ble_eq_true rfl) rfl (by decide +kernel) rfl ?_
  refine ct_aload K 50 0 (by decide +kernel) (lv_at hl 0 rfl) rfl ?_
  refine ct_aload K 51 2 (by decide +kernel) (lv_at hl 2 rfl) rfl ?_
  refine ct_put K hname 54 (o := 1) (idx := 34) (ci := 1) (k := 9) (fs' := [.ref q0, .int 0, .int 0, .int 0, .ref q1, .ref q2, .ref q3, .ref q4, .ref p1, .ref p2]) (by decide +kernel) rfl (by decide) (by decide) rfl rfl rfl (Nat.le_of_ble_eq_true rfl) rfl (by decide +kernel) rfl ?_
  refine kret (fun i => [q0, q1, q2, q3, q4].getD i 0, fun g => ([] : List (Nat → Nat)).getD g (fun _ => 0)) 54 _ ?_ (by decide +kernel)
  simp only [List.append_assoc, List.cons_append, List.nil_append, ct_Guesses_fs, ct_Guesses_nw]
  try rfl
def ct_History_fs (v : Nat → Nat) (u : US) : List Value := [.int 0, .ref (u.1 0), .int 0]
def ct_History_nw (T v : Nat → Nat) (u : US) : va_W := ([(u.1 0, .inl (T 4, 40, .inr (.inr (.inr (.inr (fun i => if i < 40 then some (u.2 0 i) else none))))))] ++ ((List.range 40).map (fun i => (u.2 0 i, .inl (T 0, 37, .inl (fun _ => Int32.ofInt 0)))) ++ []))
set_option maxHeartbeats 4000000 in
set_option maxRecDepth 100000 in
theorem ct_History (l : Launch) (D : va_G) (T v : Nat → Nat) (A : Nat → Prop) (h0 : Nat) (ws : va_W) : Met l (nwY 3) (Cond.code (nwY 3) prog_4_method_1_code 1 none :: gT) (rmC 1 41 1520) (CtP D T v A h0 2 [.int 0, .null, .int 0] [] ws) (CtQ D A h0 2 (ct_History_fs v) ws (ct_History_nw T v)) 41 1520 A := by
  refine ct_met (by decide +kernel) rfl (Nat.le_of_ble_eq_true rfl) (fun p e s m args below meth c ls K hname hl kret => ?_)
  have hl : lv_has ls 1 [(0, .ref h0)] := hl
  have K : CC p s m args c D T v A "CannonPost$History" prog_4_method_1_code 1 ls := K
  refine ct_aload K 1 0 (by decide +kernel) (lv_at hl 0 rfl) rfl ?_
  refine ct_obj K 4 (ctW _ (List.mem_of_getElem? (i := 22) rfl)) (ctW _ (List.mem_of_getElem? (i := 0) rfl)) (ctW _ (List.mem_of_getElem? (i := 1) rfl)) (by decide +kernel) rfl (Nat.le_of_ble_eq_true rfl) (Nat.le_of_ble_eq_true rfl) ?_
  refine ct_aload K 5 0 (by decide +kernel) (lv_at hl 0 rfl) rfl ?_
  refine ct_bipush K 7 (n := 40) (40) (by decide +kernel) (by decide) rfl ?_
  refine ct_bipush K 9 (n := 37) (37) (by decide +kernel) (by decide) rfl ?_
  refine ct_mna K 13 40 37 (ctW _ (List.mem_of_getElem? (i := 23) rfl)) (ctW _ (List.mem_of_getElem? (i := 2) rfl)) (by decide +kernel) (by decide) (by decide) (by decide) (by decide) (Nat.le_of_ble_eq_true rfl) (Nat.le_of_ble_eq_true rfl) rfl (Nat.le_of_ble_eq_true rfl) (Nat.le_of_ble_eq_true rfl) (fun q0 r0 => ?_)
  refine ct_putA K hname 16 (o := 2) (idx := 13) (ci := 2) (k := 1) (fs' := [.int 0, .ref q0, .int 0]) (by decide +kernel) rfl (by decide) (by decide) rfl rfl rfl (Nat.le_of_ble_eq_true rfl) rfl (by decide +kernel) rfl ?_
  refine kret (fun i => [q0].getD i 0, fun g => [r0].getD g (fun _ => 0)) 16 _ ?_ (by decide +kernel)
  simp only [List.append_assoc, List.cons_append, List.nil_append, ct_History_fs, ct_History_nw]
  try rfl
def ct_State_fs (v : Nat → Nat) (u : US) : List Value := [.ref (u.1 0), .ref (u.1 1)]
def ct_State_nw (T v : Nat → Nat) (u : US) : va_W := [(u.1 0, .inl (T 0, 37, .inl (fun _ => Int32.ofInt 0))), (u.1 1, .inl (T 0, 400, .inl (fun _ => Int32.ofInt 0)))]
set_option maxHeartbeats 4000000 in
set_option maxRecDepth 100000 in
theorem ct_State (l : Launch) (D : va_G) (T v : Nat → Nat) (A : Nat → Prop) (h0 : Nat) (ws : va_W) : Met l (nwY 4) (Cond.code (nwY 4) prog_11_method_1_code 1 none :: gT) (rmC 1 2 437) (CtP D T v A h0 9 [.null, .null] [] ws) (CtQ D A h0 9 (ct_State_fs v) ws (ct_State_nw T v)) 2 437 A := by
  refine ct_met (by decide +kernel) rfl (Nat.le_of_ble_eq_true rfl) (fun p e s m args below meth c ls K hname hl kret => ?_)
  have hl : lv_has ls 1 [(0, .ref h0)] := hl
  have K : CC p s m args c D T v A "CannonPost$State" prog_11_method_1_code 1 ls := K
  refine ct_aload K 1 0 (by decide +kernel) (lv_at hl 0 rfl) rfl ?_
  refine ct_obj K 4 (ctW _ (List.mem_of_getElem? (i := 24) rfl)) (ctW _ (List.mem_of_getElem? (i := 0) rfl)) (ctW _ (List.mem_of_getElem? (i := 1) rfl)) (by decide +kernel) rfl (Nat.le_of_ble_eq_true rfl) (Nat.le_of_ble_eq_true rfl) ?_
  refine ct_aload K 5 0 (by decide +kernel) (lv_at hl 0 rfl) rfl ?_
  refine ct_bipush K 7 (n := 37) (37) (by decide +kernel) (by decide) rfl ?_
  refine ct_newa K 9 (atype := .int) (N := 37) (t0 := 0) (a0 := (37, .inl (fun _ => Int32.ofInt 0))) (by decide +kernel) rfl rfl (fun _ _ => rfl) (ctW _ (List.mem_of_getElem? (i := 2) rfl)) (fun _ => rfl) (by decide) (by decide) (Nat.le_of_ble_eq_true rfl) rfl (Nat.le_of_ble_eq_true rfl) (Nat.le_of_ble_eq_true rfl) (fun q0 => ?_)
  refine ct_putA K hname 12 (o := 9) (idx := 15) (ci := 9) (k := 0) (fs' := [.ref q0, .null]) (by decide +kernel) rfl (by decide) (by decide) rfl rfl rfl (Nat.le_of_ble_eq_true rfl) rfl (by decide +kernel) rfl ?_
  refine ct_aload K 13 0 (by decide +kernel) (lv_at hl 0 rfl) rfl ?_
  refine ct_sipush K 16 (n := 400) (400) (by decide +kernel) (by decide) rfl ?_
  refine ct_newa K 18 (atype := .int) (N := 400) (t0 := 0) (a0 := (400, .inl (fun _ => Int32.ofInt 0))) (by decide +kernel) rfl rfl (fun _ _ => rfl) (ctW _ (List.mem_of_getElem? (i := 2) rfl)) (fun _ => rfl) (by decide) (by decide) (Nat.le_of_ble_eq_true rfl) rfl (Nat.le_of_ble_eq_true rfl) (Nat.le_of_ble_eq_true rfl) (fun q1 => ?_)
  refine ct_putA K hname 21 (o := 9) (idx := 19) (ci := 9) (k := 1) (fs' := [.ref q0, .ref q1]) (by decide +kernel) rfl (by decide) (by decide) rfl rfl rfl (Nat.le_of_ble_eq_true rfl) rfl (by decide +kernel) rfl ?_
  refine kret (fun i => [q0, q1].getD i 0, fun g => ([] : List (Nat → Nat)).getD g (fun _ => 0)) 21 _ ?_ (by decide +kernel)
  simp only [List.append_assoc, List.cons_append, List.nil_append, ct_State_fs, ct_State_nw]
  try rfl
def ct_CannonPost_fs (v : Nat → Nat) (u : US) : List Value := [.ref (u.1 0), .ref (u.1 2), .ref (u.1 6), .ref (u.1 11), .ref (u.1 13), .ref (u.1 18), .ref (u.1 22), .ref (u.1 25), .ref (u.1 31), .ref (u.1 37), .ref (u.1 39), .ref (u.1 42), .ref (u.1 45), .int 0, .int 0]
def ct_CannonPost_nw (T v : Nat → Nat) (u : US) : va_W := ([(u.1 0, .inr (10, [.ref (u.1 1), .int 0, .int 0])), (u.1 1, .inl (T 1, 240, .inl (fun _ => Int32.ofInt 0))), (u.1 2, .inr (5, [.ref (u.1 3), .ref (u.1 4), .ref (u.1 5), .int 0, .int 0])), (u.1 3, .inl (T 0, 4, .inl (fun _ => Int32.ofInt 0))), (u.1 4, .inl (T 0, 24, .inl (fun _ => Int32.ofInt 0))), (u.1 5, .inl (T 0, 15, .inl (fun _ => Int32.ofInt 0))), (u.1 6, .inr (6, [.ref (u.1 7), .ref (u.1 0), .int 0])), (u.1 7, .inr (5, [.ref (u.1 8), .ref (u.1 9), .ref (u.1 10), .int 0, .int 0])), (u.1 8, .inl (T 0, 4, .inl (fun _ => Int32.ofInt 0))), (u.1 9, .inl (T 0, 24, .inl (fun _ => Int32.ofInt 0))), (u.1 10, .inl (T 0, 15, .inl (fun _ => Int32.ofInt 0))), (u.1 11, .inr (3, [.ref (u.1 12), .int 0, .ref (u.1 0)])), (u.1 12, .inl (T 0, 240, .inl (fun _ => Int32.ofInt 0))), (u.1 13, .inr (4, [.ref (u.1 14), .int 0, .int (-1), .ref (u.1 15), .ref (u.1 16), .ref (u.1 17)])), (u.1 14, .inl (T 0, 6, .inl (fun _ => Int32.ofInt 0))), (u.1 15, .inl (T 4, 4, .inr (.inr (.inr (.inr (fun i => if i < 4 then some (u.2 0 i) else none))))))] ++ ((List.range 4).map (fun i => (u.2 0 i, .inl (T 0, 240, .inl (fun _ => Int32.ofInt 0)))) ++ ([(u.1 16, .inl (T 0, 4, .inl (fun _ => Int32.ofInt 0))), (u.1 17, .inl (T 0, 64, .inl (fun _ => Int32.ofInt 0))), (u.1 18, .inr (8, [.ref (u.1 19), .int 0, .ref (u.1 20), .ref (u.1 21), .int 0, .ref (u.1 0)])), (u.1 19, .inl (T 0, 4, .inl (fun _ => Int32.ofInt 0))), (u.1 20, .inl (T 4, 4, .inr (.inr (.inr (.inr (fun i => if i < 4 then some (u.2 1 i) else none))))))] ++ ((List.range 4).map (fun i => (u.2 1 i, .inl (T 0, 64, .inl (fun _ => Int32.ofInt 0)))) ++ ([(u.1 21, .inl (T 0, 64, .inl (fun _ => Int32.ofInt 0))), (u.1 22, .inr (0, [.ref (u.1 2), .ref (u.1 13), .ref (u.1 23), .ref (u.1 24)])), (u.1 23, .inl (T 0, 320, .inl (fun _ => Int32.ofInt 0))), (u.1 24, .inl (T 0, 40, .inl (fun _ => Int32.ofInt 0))), (u.1 25, .inr (7, [.ref (u.1 26), .ref (u.1 27), .ref (u.1 28), .ref (u.1 29), .ref (u.1 30), .ref (u.1 2), .ref (u.1 22)])), (u.1 26, .inl (T 0, 8, .inl (fun _ => Int32.ofInt 0))), (u.1 27, .inl (T 0, 8, .inl (fun _ => Int32.ofInt 0))), (u.1 28, .inl (T 0, 8, .inl (fun _ => Int32.ofInt 0))), (u.1 29, .inl (T 0, 8, .inl (fun _ => Int32.ofInt 0))), (u.1 30, .inl (T 0, 5, .inl (fun _ => Int32.ofInt 0))), (u.1 31, .inr (1, [.ref (u.1 32), .int 0, .int 0, .int 0, .ref (u.1 33), .ref (u.1 34), .ref (u.1 35), .ref (u.1 36), .ref (u.1 2), .ref (u.1 22)])), (u.1 32, .inl (T 0, 20, .inl (fun _ => Int32.ofInt 0))), (u.1 33, .inl (T 0, 50, .inl (fun _ => Int32.ofInt 0))), (u.1 34, .inl (T 0, 61, .inl (fun _ => Int32.ofInt 0))), (u.1 35, .inl (T 0, 12, .inl (fun _ => Int32.ofInt 0))), (u.1 36, .inl (T 2, 12, .inl (fun _ => Int32.ofInt 0))), (u.1 37, .inr (2, [.int 0, .ref (u.1 38), .int 0])), (u.1 38, .inl (T 4, 40, .inr (.inr (.inr (.inr (fun i => if i < 40 then some (u.2 2 i) else none))))))] ++ ((List.range 40).map (fun i => (u.2 2 i, .inl (T 0, 37, .inl (fun _ => Int32.ofInt 0)))) ++ [(u.1 39, .inr (9, [.ref (u.1 40), .ref (u.1 41)])), (u.1 40, .inl (T 0, 37, .inl (fun _ => Int32.ofInt 0))), (u.1 41, .inl (T 0, 400, .inl (fun _ => Int32.ofInt 0))), (u.1 42, .inr (9, [.ref (u.1 43), .ref (u.1 44)])), (u.1 43, .inl (T 0, 37, .inl (fun _ => Int32.ofInt 0))), (u.1 44, .inl (T 0, 400, .inl (fun _ => Int32.ofInt 0))), (u.1 45, .inr (9, [.ref (u.1 46), .ref (u.1 47)])), (u.1 46, .inl (T 0, 37, .inl (fun _ => Int32.ofInt 0))), (u.1 47, .inl (T 0, 400, .inl (fun _ => Int32.ofInt 0)))]))))))
set_option maxHeartbeats 4000000 in
set_option maxRecDepth 100000 in
theorem ct_CannonPost (l : Launch) (D : va_G) (T v : Nat → Nat) (A : Nat → Prop) (h0 : Nat) (ws : va_W) : Met l (⟨"CannonPost", "<init>", "()V"⟩ : MethodName) (Cond.code (⟨"CannonPost", "<init>", "()V"⟩ : MethodName) prog_1_method_1_code 1 none :: gT) (rmC 3 96 5376) (CtP D T v A h0 11 [.null, .null, .null, .null, .null, .null, .null, .null, .null, .null, .null, .null, .null, .int 0, .int 0] [] ws) (CtQ D A h0 11 (ct_CannonPost_fs v) ws (ct_CannonPost_nw T v)) 96 5376 A := by
  refine ct_met (by decide +kernel) rfl (Nat.le_of_ble_eq_true rfl) (fun p e s m args below meth c ls K hname hl kret => ?_)
  have hl : lv_has ls 1 [(0, .ref h0)] := hl
  have K : CC p s m args c D T v A "CannonPost" prog_1_method_1_code 1 ls := K
  refine ct_aload K 1 0 (by decide +kernel) (lv_at hl 0 rfl) rfl ?_
  refine ct_obj K 4 (ctW _ (List.mem_of_getElem? (i := 25) rfl)) (ctW _ (List.mem_of_getElem? (i := 0) rfl)) (ctW _ (List.mem_of_getElem? (i := 1) rfl)) (by decide +kernel) rfl (Nat.le_of_ble_eq_true rfl) (Nat.le_of_ble_eq_true rfl) ?_
  refine ct_aload K 5 0 (by decide +kernel) (lv_at hl 0 rfl) rfl ?_
  refine ct_new K 8 10 [.null, .int 0, .int 0] (by decide) (ctW _ (List.mem_of_getElem? (i := 26) rfl)) (ctW _ (List.mem_of_getElem? (i := 27) rfl)) (ctW _ (List.mem_of_getElem? (i := 28) rfl)) (by decide +kernel) (by decide +kernel) rfl (Nat.le_of_ble_eq_true rfl) (Nat.le_of_ble_eq_true rfl) (fun q0 => ?_)
  refine ct_dup K 9 (by decide +kernel) rfl ?_
  refine ct_callN (k := 0) (q := q0) (d := 1) (mc := 1) (ms := 240) (rest := [.ref q0, .ref h0]) K 12 (fun ws => ct_Tape l D T v A q0  ws) (ctW _ (List.mem_of_getElem? (i := 29) rfl)) (ctW _ (List.mem_of_getElem? (i := 28) rfl)) (List.mem_of_getElem? (i := 0) rfl) (ctW _ (List.mem_of_getElem? (i := 30) rfl)) (by decide +kernel) (by decide +kernel) rfl (Nat.le_of_ble_eq_true rfl) (Nat.le_of_ble_eq_true rfl) (Nat.le_of_ble_eq_true rfl) (Nat.le_of_ble_eq_true rfl) (Nat.le_of_ble_eq_true rfl) (fun u0 => ?_)
  refine ct_putA K hname 15 (o := 11) (idx := 10) (ci := 11) (k := 0) (fs' := [.ref q0, .null, .null, .null, .null, .null, .null, .null, .null, .null, .null, .null, .null, .int 0, .int 0]) (by decide +kernel) rfl (by decide) (by decide) rfl rfl rfl (Nat.le_of_ble_eq_true rfl) rfl (by decide +kernel) rfl ?_
  refine ct_aload K 16 0 (by decide +kernel) (lv_at hl 0 rfl) rfl ?_
  refine ct_new K 19 5 [.null, .null, .null, .int 0, .int 0] (by decide) (ctW _ (List.mem_of_getElem? (i := 31) rfl)) (ctW _ (List.mem_of_getElem? (i := 10) rfl)) (ctW _ (List.mem_of_getElem? (i := 11) rfl)) (by decide +kernel) (by decide +kernel) rfl (Nat.le_of_ble_eq_true rfl) (Nat.le_of_ble_eq_true rfl) (fun q1 => ?_)
  refine ct_dup K 20 (by decide +kernel) rfl ?_
  refine ct_callN (k := 1) (q := q1) (d := 1) (mc := 3) (ms := 43) (rest := [.ref q1, .ref h0]) K 23 (fun ws => ct_League l D T v A q1  ws) (ctW _ (List.mem_of_getElem? (i := 12) rfl)) (ctW _ (List.mem_of_getElem? (i := 11) rfl)) (List.mem_of_getElem? (i := 1) rfl) (ctW _ (List.mem_of_getElem? (i := 13) rfl)) (by decide +kernel) (by decide +kernel) rfl (Nat.le_of_ble_eq_true rfl) (Nat.le_of_ble_eq_true rfl) (Nat.le_of_ble_eq_true rfl) (Nat.le_of_ble_eq_true rfl) (Nat.le_of_ble_eq_true rfl) (fun u1 => ?_)
  refine ct_putA K hname 26 (o := 11) (idx := 19) (ci := 11) (k := 1) (fs' := [.ref q0, .ref q1, .null, .null, .null, .null, .null, .null, .null, .null, .null, .null, .null, .int 0, .int 0]) (by decide +kernel) rfl (by decide) (by decide) rfl rfl rfl (Nat.le_of_ble_eq_true rfl) rfl (by decide +kernel) rfl ?_
  refine ct_aload K 27 0 (by decide +kernel) (lv_at hl 0 rfl) rfl ?_
  refine ct_new K 30 6 [.null, .null, .int 0] (by decide) (ctW _ (List.mem_of_getElem? (i := 32) rfl)) (ctW _ (List.mem_of_getElem? (i := 33) rfl)) (ctW _ (List.mem_of_getElem? (i := 34) rfl)) (by decide +kernel) (by decide +kernel) rfl (Nat.le_of_ble_eq_true rfl) (Nat.le_of_ble_eq_true rfl) (fun q2 => ?_)
  refine ct_dup K 31 (by decide +kernel) rfl ?_
  refine ct_aload K 32 0 (by decide +kernel) (lv_at hl 0 rfl) rfl ?_
  refine ct_getA K 35 (o := 11) (idx := 10) (ci := 11) (k := 0) (by decide +kernel) rfl (by decide) (by decide) rfl (by decide +kernel) rfl ?_
  refine ct_call (n := 1) (q := q2) (d := 2) (mc := 4) (ms := 48) (as := [.ref q0]) (rest := [.ref q2, .ref h0]) K 38 (fun ws => ct_LeagueReader l D T v A q2 q0 ws) (ctW _ (List.mem_of_getElem? (i := 35) rfl)) (ctW _ (List.mem_of_getElem? (i := 34) rfl)) (ctW _ (List.mem_of_getElem? (i := 36) rfl)) (ctW _ (List.mem_of_getElem? (i := 37) rfl)) rfl (by decide +kernel) rfl (by decide) (by decide +kernel) rfl (Nat.le_of_ble_eq_true rfl) (Nat.le_of_ble_eq_true rfl) (Nat.le_of_ble_eq_true rfl) (Nat.le_of_ble_eq_true rfl) (Nat.le_of_ble_eq_true rfl) (fun u2 => ?_)
  refine ct_putA K hname 41 (o := 11) (idx := 28) (ci := 11) (k := 2) (fs' := [.ref q0, .ref q1, .ref q2, .null, .null, .null, .null, .null, .null, .null, .null, .null, .null, .int 0, .int 0]) (by decide +kernel) rfl (by decide) (by decide) rfl rfl rfl (Nat.le_of_ble_eq_true rfl) rfl (by decide +kernel) rfl ?_
  refine ct_aload K 42 0 (by decide +kernel) (lv_at hl 0 rfl) rfl ?_
  refine ct_new K 45 3 [.null, .int 0, .null] (by decide) (ctW _ (List.mem_of_getElem? (i := 38) rfl)) (ctW _ (List.mem_of_getElem? (i := 39) rfl)) (ctW _ (List.mem_of_getElem? (i := 40) rfl)) (by decide +kernel) (by decide +kernel) rfl (Nat.le_of_ble_eq_true rfl) (Nat.le_of_ble_eq_true rfl) (fun q3 => ?_)
  refine ct_dup K 46 (by decide +kernel) rfl ?_
  refine ct_aload K 47 0 (by decide +kernel) (lv_at hl 0 rfl) rfl ?_
  refine ct_getA K 50 (o := 11) (idx := 10) (ci := 11) (k := 0) (by decide +kernel) rfl (by decide) (by decide) rfl (by decide +kernel) rfl ?_
  refine ct_call (n := 1) (q := q3) (d := 1) (mc := 1) (ms := 240) (as := [.ref q0]) (rest := [.ref q3, .ref h0]) K 53 (fun ws => ct_LawReader l D T v A q3 q0 ws) (ctW _ (List.mem_of_getElem? (i := 41) rfl)) (ctW _ (List.mem_of_getElem? (i := 40) rfl)) (ctW _ (List.mem_of_getElem? (i := 42) rfl)) (ctW _ (List.mem_of_getElem? (i := 43) rfl)) rfl (by decide +kernel) rfl (by decide) (by decide +kernel) rfl (Nat.le_of_ble_eq_true rfl) (Nat.le_of_ble_eq_true rfl) (Nat.le_of_ble_eq_true rfl) (Nat.le_of_ble_eq_true rfl) (Nat.le_of_ble_eq_true rfl) (fun u3 => ?_)
  refine ct_putA K hname 56 (o := 11) (idx := 35) (ci := 11) (k := 3) (fs' := [.ref q0, .ref q1, .ref q2, .ref q3, .null, .null, .null, .null, .null, .null, .null, .null, .null, .int 0, .int 0]) (by decide +kernel) rfl (by decide) (by decide) rfl rfl rfl (Nat.le_of_ble_eq_true rfl) rfl (by decide +kernel) rfl ?_
  refine ct_aload K 57 0 (by decide +kernel) (lv_at hl 0 rfl) rfl ?_
  refine ct_new K 60 4 [.null, .int 0, .int 0, .null, .null, .null] (by decide) (ctW _ (List.mem_of_getElem? (i := 44) rfl)) (ctW _ (List.mem_of_getElem? (i := 45) rfl)) (ctW _ (List.mem_of_getElem? (i := 46) rfl)) (by decide +kernel) (by decide +kernel) rfl (Nat.le_of_ble_eq_true rfl) (Nat.le_of_ble_eq_true rfl) (fun q4 => ?_)
  refine ct_dup K 61 (by decide +kernel) rfl ?_
  refine ct_callN (k := 2) (q := q4) (d := 1) (mc := 8) (ms := 1038) (rest := [.ref q4, .ref h0]) K 64 (fun ws => ct_Lawbook l D T v A q4  ws) (ctW _ (List.mem_of_getElem? (i := 47) rfl)) (ctW _ (List.mem_of_getElem? (i := 46) rfl)) (List.mem_of_getElem? (i := 2) rfl) (ctW _ (List.mem_of_getElem? (i := 48) rfl)) (by decide +kernel) (by decide +kernel) rfl (Nat.le_of_ble_eq_true rfl) (Nat.le_of_ble_eq_true rfl) (Nat.le_of_ble_eq_true rfl) (Nat.le_of_ble_eq_true rfl) (Nat.le_of_ble_eq_true rfl) (fun u4 => ?_)
  refine ct_putA K hname 67 (o := 11) (idx := 42) (ci := 11) (k := 4) (fs' := [.ref q0, .ref q1, .ref q2, .ref q3, .ref q4, .null, .null, .null, .null, .null, .null, .null, .null, .int 0, .int 0]) (by decide +kernel) rfl (by decide) (by decide) rfl rfl rfl (Nat.le_of_ble_eq_true rfl) rfl (by decide +kernel) rfl ?_
  refine ct_aload K 68 0 (by decide +kernel) (lv_at hl 0 rfl) rfl ?_
  refine ct_new K 71 8 [.null, .int 0, .null, .null, .int 0, .null] (by decide) (ctW _ (List.mem_of_getElem? (i := 49) rfl)) (ctW _ (List.mem_of_getElem? (i := 50) rfl)) (ctW _ (List.mem_of_getElem? (i := 51) rfl)) (by decide +kernel) (by decide +kernel) rfl (Nat.le_of_ble_eq_true rfl) (Nat.le_of_ble_eq_true rfl) (fun q5 => ?_)
  refine ct_dup K 72 (by decide +kernel) rfl ?_
  refine ct_aload K 73 0 (by decide +kernel) (lv_at hl 0 rfl) rfl ?_
  refine ct_getA K 76 (o := 11) (idx := 10) (ci := 11) (k := 0) (by decide +kernel) rfl (by decide) (by decide) rfl (by decide +kernel) rfl ?_
  refine ct_call (n := 1) (q := q5) (d := 1) (mc := 7) (ms := 328) (as := [.ref q0]) (rest := [.ref q5, .ref h0]) K 79 (fun ws => ct_Planbook l D T v A q5 q0 ws) (ctW _ (List.mem_of_getElem? (i := 52) rfl)) (ctW _ (List.mem_of_getElem? (i := 51) rfl)) (ctW _ (List.mem_of_getElem? (i := 53) rfl)) (ctW _ (List.mem_of_getElem? (i := 54) rfl)) rfl (by decide +kernel) rfl (by decide) (by decide +kernel) rfl (Nat.le_of_ble_eq_true rfl) (Nat.le_of_ble_eq_true rfl) (Nat.le_of_ble_eq_true rfl) (Nat.le_of_ble_eq_true rfl) (Nat.le_of_ble_eq_true rfl) (fun u5 => ?_)
  refine ct_putA K hname 82 (o := 11) (idx := 49) (ci := 11) (k := 5) (fs' := [.ref q0, .ref q1, .ref q2, .ref q3, .ref q4, .ref q5, .null, .null, .null, .null, .null, .null, .null, .int 0, .int 0]) (by decide +kernel) rfl (by decide) (by decide) rfl rfl rfl (Nat.le_of_ble_eq_true rfl) rfl (by decide +kernel) rfl ?_
  refine ct_aload K 83 0 (by decide +kernel) (lv_at hl 0 rfl) rfl ?_
  refine ct_new K 86 0 [.null, .null, .null, .null] (by decide) (ctW _ (List.mem_of_getElem? (i := 55) rfl)) (ctW _ (List.mem_of_getElem? (i := 56) rfl)) (ctW _ (List.mem_of_getElem? (i := 57) rfl)) (by decide +kernel) (by decide +kernel) rfl (Nat.le_of_ble_eq_true rfl) (Nat.le_of_ble_eq_true rfl) (fun q6 => ?_)
  refine ct_dup K 87 (by decide +kernel) rfl ?_
  refine ct_aload K 88 0 (by decide +kernel) (lv_at hl 0 rfl) rfl ?_
  refine ct_getA K 91 (o := 11) (idx := 19) (ci := 11) (k := 1) (by decide +kernel) rfl (by decide) (by decide) rfl (by decide +kernel) rfl ?_
  refine ct_aload K 92 0 (by decide +kernel) (lv_at hl 0 rfl) rfl ?_
  refine ct_getA K 95 (o := 11) (idx := 42) (ci := 11) (k := 4) (by decide +kernel) rfl (by decide) (by decide) rfl (by decide +kernel) rfl ?_
  refine ct_call (n := 2) (q := q6) (d := 1) (mc := 2) (ms := 360) (as := [.ref q1, .ref q4]) (rest := [.ref q6, .ref h0]) K 98 (fun ws => ct_Flight l D T v A q6 q1 q4 ws) (ctW _ (List.mem_of_getElem? (i := 58) rfl)) (ctW _ (List.mem_of_getElem? (i := 57) rfl)) (ctW _ (List.mem_of_getElem? (i := 59) rfl)) (ctW _ (List.mem_of_getElem? (i := 60) rfl)) rfl (by decide +kernel) rfl (by decide) (by decide +kernel) rfl (Nat.le_of_ble_eq_true rfl) (Nat.le_of_ble_eq_true rfl) (Nat.le_of_ble_eq_true rfl) (Nat.le_of_ble_eq_true rfl) (Nat.le_of_ble_eq_true rfl) (fun u6 => ?_)
  refine ct_putA K hname 101 (o := 11) (idx := 58) (ci := 11) (k := 6) (fs' := [.ref q0, .ref q1, .ref q2, .ref q3, .ref q4, .ref q5, .ref q6, .null, .null, .null, .null, .null, .null, .int 0, .int 0]) (by decide +kernel) rfl (by decide) (by decide) rfl rfl rfl (Nat.le_of_ble_eq_true rfl) rfl (by decide +kernel) rfl ?_
  refine ct_aload K 102 0 (by decide +kernel) (lv_at hl 0 rfl) rfl ?_
  refine ct_new K 105 7 [.null, .null, .null, .null, .null, .null, .null] (by decide) (ctW _ (List.mem_of_getElem? (i := 61) rfl)) (ctW _ (List.mem_of_getElem? (i := 62) rfl)) (ctW _ (List.mem_of_getElem? (i := 63) rfl)) (by decide +kernel) (by decide +kernel) rfl (Nat.le_of_ble_eq_true rfl) (Nat.le_of_ble_eq_true rfl) (fun q7 => ?_)
  refine ct_dup K 106 (by decide +kernel) rfl ?_
  refine ct_aload K 107 0 (by decide +kernel) (lv_at hl 0 rfl) rfl ?_
  refine ct_getA K 110 (o := 11) (idx := 19) (ci := 11) (k := 1) (by decide +kernel) rfl (by decide) (by decide) rfl (by decide +kernel) rfl ?_
  refine ct_aload K 111 0 (by decide +kernel) (lv_at hl 0 rfl) rfl ?_
  refine ct_getA K 114 (o := 11) (idx := 58) (ci := 11) (k := 6) (by decide +kernel) rfl (by decide) (by decide) rfl (by decide +kernel) rfl ?_
  refine ct_call (n := 2) (q := q7) (d := 1) (mc := 5) (ms := 37) (as := [.ref q1, .ref q6]) (rest := [.ref q7, .ref h0]) K 117 (fun ws => ct_Paths l D T v A q7 q1 q6 ws) (ctW _ (List.mem_of_getElem? (i := 64) rfl)) (ctW _ (List.mem_of_getElem? (i := 63) rfl)) (ctW _ (List.mem_of_getElem? (i := 65) rfl)) (ctW _ (List.mem_of_getElem? (i := 66) rfl)) rfl (by decide +kernel) rfl (by decide) (by decide +kernel) rfl (Nat.le_of_ble_eq_true rfl) (Nat.le_of_ble_eq_true rfl) (Nat.le_of_ble_eq_true rfl) (Nat.le_of_ble_eq_true rfl) (Nat.le_of_ble_eq_true rfl) (fun u7 => ?_)
  refine ct_putA K hname 120 (o := 11) (idx := 67) (ci := 11) (k := 7) (fs' := [.ref q0, .ref q1, .ref q2, .ref q3, .ref q4, .ref q5, .ref q6, .ref q7, .null, .null, .null, .null, .null, .int 0, .int 0]) (by decide +kernel) rfl (by decide) (by decide) rfl rfl rfl (Nat.le_of_ble_eq_true rfl) rfl (by decide +kernel) rfl ?_
  refine ct_aload K 121 0 (by decide +kernel) (lv_at hl 0 rfl) rfl ?_
  refine ct_new K 124 1 [.null, .int 0, .int 0, .int 0, .null, .null, .null, .null, .null, .null] (by decide) (ctW _ (List.mem_of_getElem? (i := 67) rfl)) (ctW _ (List.mem_of_getElem? (i := 68) rfl)) (ctW _ (List.mem_of_getElem? (i := 69) rfl)) (by decide +kernel) (by decide +kernel) rfl (Nat.le_of_ble_eq_true rfl) (Nat.le_of_ble_eq_true rfl) (fun q8 => ?_)
  refine ct_dup K 125 (by decide +kernel) rfl ?_
  refine ct_aload K 126 0 (by decide +kernel) (lv_at hl 0 rfl) rfl ?_
  refine ct_getA K 129 (o := 11) (idx := 19) (ci := 11) (k := 1) (by decide +kernel) rfl (by decide) (by decide) rfl (by decide +kernel) rfl ?_
  refine ct_aload K 130 0 (by decide +kernel) (lv_at hl 0 rfl) rfl ?_
  refine ct_getA K 133 (o := 11) (idx := 58) (ci := 11) (k := 6) (by decide +kernel) rfl (by decide) (by decide) rfl (by decide +kernel) rfl ?_
  refine ct_call (n := 2) (q := q8) (d := 1) (mc := 5) (ms := 155) (as := [.ref q1, .ref q6]) (rest := [.ref q8, .ref h0]) K 136 (fun ws => ct_Guesses l D T v A q8 q1 q6 ws) (ctW _ (List.mem_of_getElem? (i := 70) rfl)) (ctW _ (List.mem_of_getElem? (i := 69) rfl)) (ctW _ (List.mem_of_getElem? (i := 71) rfl)) (ctW _ (List.mem_of_getElem? (i := 72) rfl)) rfl (by decide +kernel) rfl (by decide) (by decide +kernel) rfl (Nat.le_of_ble_eq_true rfl) (Nat.le_of_ble_eq_true rfl) (Nat.le_of_ble_eq_true rfl) (Nat.le_of_ble_eq_true rfl) (Nat.le_of_ble_eq_true rfl) (fun u8 => ?_)
  refine ct_putA K hname 139 (o := 11) (idx := 74) (ci := 11) (k := 8) (fs' := [.ref q0, .ref q1, .ref q2, .ref q3, .ref q4, .ref q5, .ref q6, .ref q7, .ref q8, .null, .null, .null, .null, .int 0, .int 0]) (by decide +kernel) rfl (by decide) (by decide) rfl rfl rfl (Nat.le_of_ble_eq_true rfl) rfl (by decide +kernel) rfl ?_
  refine ct_aload K 140 0 (by decide +kernel) (lv_at hl 0 rfl) rfl ?_
  refine ct_new K 143 2 [.int 0, .null, .int 0] (by decide) (ctW _ (List.mem_of_getElem? (i := 73) rfl)) (ctW _ (List.mem_of_getElem? (i := 74) rfl)) (ctW _ (List.mem_of_getElem? (i := 75) rfl)) (by decide +kernel) (by decide +kernel) rfl (Nat.le_of_ble_eq_true rfl) (Nat.le_of_ble_eq_true rfl) (fun q9 => ?_)
  refine ct_dup K 144 (by decide +kernel) rfl ?_
  refine ct_callN (k := 3) (q := q9) (d := 1) (mc := 41) (ms := 1520) (rest := [.ref q9, .ref h0]) K 147 (fun ws => ct_History l D T v A q9  ws) (ctW _ (List.mem_of_getElem? (i := 76) rfl)) (ctW _ (List.mem_of_getElem? (i := 75) rfl)) (List.mem_of_getElem? (i := 3) rfl) (ctW _ (List.mem_of_getElem? (i := 77) rfl)) (by decide +kernel) (by decide +kernel) rfl (Nat.le_of_ble_eq_true rfl) (Nat.le_of_ble_eq_true rfl) (Nat.le_of_ble_eq_true rfl) (Nat.le_of_ble_eq_true rfl) (Nat.le_of_ble_eq_true rfl) (fun u9 => ?_)
  refine ct_putA K hname 150 (o := 11) (idx := 81) (ci := 11) (k := 9) (fs' := [.ref q0, .ref q1, .ref q2, .ref q3, .ref q4, .ref q5, .ref q6, .ref q7, .ref q8, .ref q9, .null, .null, .null, .int 0, .int 0]) (by decide +kernel) rfl (by decide) (by decide) rfl rfl rfl (Nat.le_of_ble_eq_true rfl) rfl (by decide +kernel) rfl ?_
  refine ct_aload K 151 0 (by decide +kernel) (lv_at hl 0 rfl) rfl ?_
  refine ct_new K 154 9 [.null, .null] (by decide) (ctW _ (List.mem_of_getElem? (i := 78) rfl)) (ctW _ (List.mem_of_getElem? (i := 79) rfl)) (ctW _ (List.mem_of_getElem? (i := 80) rfl)) (by decide +kernel) (by decide +kernel) rfl (Nat.le_of_ble_eq_true rfl) (Nat.le_of_ble_eq_true rfl) (fun q10 => ?_)
  refine ct_dup K 155 (by decide +kernel) rfl ?_
  refine ct_callN (k := 4) (q := q10) (d := 1) (mc := 2) (ms := 437) (rest := [.ref q10, .ref h0]) K 158 (fun ws => ct_State l D T v A q10  ws) (ctW _ (List.mem_of_getElem? (i := 81) rfl)) (ctW _ (List.mem_of_getElem? (i := 80) rfl)) (List.mem_of_getElem? (i := 4) rfl) (ctW _ (List.mem_of_getElem? (i := 82) rfl)) (by decide +kernel) (by decide +kernel) rfl (Nat.le_of_ble_eq_true rfl) (Nat.le_of_ble_eq_true rfl) (Nat.le_of_ble_eq_true rfl) (Nat.le_of_ble_eq_true rfl) (Nat.le_of_ble_eq_true rfl) (fun u10 => ?_)
  refine ct_putA K hname 161 (o := 11) (idx := 88) (ci := 11) (k := 10) (fs' := [.ref q0, .ref q1, .ref q2, .ref q3, .ref q4, .ref q5, .ref q6, .ref q7, .ref q8, .ref q9, .ref q10, .null, .null, .int 0, .int 0]) (by decide +kernel) rfl (by decide) (by decide) rfl rfl rfl (Nat.le_of_ble_eq_true rfl) rfl (by decide +kernel) rfl ?_
  refine ct_aload K 162 0 (by decide +kernel) (lv_at hl 0 rfl) rfl ?_
  refine ct_new K 165 9 [.null, .null] (by decide) (ctW _ (List.mem_of_getElem? (i := 78) rfl)) (ctW _ (List.mem_of_getElem? (i := 79) rfl)) (ctW _ (List.mem_of_getElem? (i := 80) rfl)) (by decide +kernel) (by decide +kernel) rfl (Nat.le_of_ble_eq_true rfl) (Nat.le_of_ble_eq_true rfl) (fun q11 => ?_)
  refine ct_dup K 166 (by decide +kernel) rfl ?_
  refine ct_callN (k := 4) (q := q11) (d := 1) (mc := 2) (ms := 437) (rest := [.ref q11, .ref h0]) K 169 (fun ws => ct_State l D T v A q11  ws) (ctW _ (List.mem_of_getElem? (i := 81) rfl)) (ctW _ (List.mem_of_getElem? (i := 80) rfl)) (List.mem_of_getElem? (i := 4) rfl) (ctW _ (List.mem_of_getElem? (i := 82) rfl)) (by decide +kernel) (by decide +kernel) rfl (Nat.le_of_ble_eq_true rfl) (Nat.le_of_ble_eq_true rfl) (Nat.le_of_ble_eq_true rfl) (Nat.le_of_ble_eq_true rfl) (Nat.le_of_ble_eq_true rfl) (fun u11 => ?_)
  refine ct_putA K hname 172 (o := 11) (idx := 92) (ci := 11) (k := 11) (fs' := [.ref q0, .ref q1, .ref q2, .ref q3, .ref q4, .ref q5, .ref q6, .ref q7, .ref q8, .ref q9, .ref q10, .ref q11, .null, .int 0, .int 0]) (by decide +kernel) rfl (by decide) (by decide) rfl rfl rfl (Nat.le_of_ble_eq_true rfl) rfl (by decide +kernel) rfl ?_
  refine ct_aload K 173 0 (by decide +kernel) (lv_at hl 0 rfl) rfl ?_
  refine ct_new K 176 9 [.null, .null] (by decide) (ctW _ (List.mem_of_getElem? (i := 78) rfl)) (ctW _ (List.mem_of_getElem? (i := 79) rfl)) (ctW _ (List.mem_of_getElem? (i := 80) rfl)) (by decide +kernel) (by decide +kernel) rfl (Nat.le_of_ble_eq_true rfl) (Nat.le_of_ble_eq_true rfl) (fun q12 => ?_)
  refine ct_dup K 177 (by decide +kernel) rfl ?_
  refine ct_callN (k := 4) (q := q12) (d := 1) (mc := 2) (ms := 437) (rest := [.ref q12, .ref h0]) K 180 (fun ws => ct_State l D T v A q12  ws) (ctW _ (List.mem_of_getElem? (i := 81) rfl)) (ctW _ (List.mem_of_getElem? (i := 80) rfl)) (List.mem_of_getElem? (i := 4) rfl) (ctW _ (List.mem_of_getElem? (i := 82) rfl)) (by decide +kernel) (by decide +kernel) rfl (Nat.le_of_ble_eq_true rfl) (Nat.le_of_ble_eq_true rfl) (Nat.le_of_ble_eq_true rfl) (Nat.le_of_ble_eq_true rfl) (Nat.le_of_ble_eq_true rfl) (fun u12 => ?_)
  refine ct_putA K hname 183 (o := 11) (idx := 95) (ci := 11) (k := 12) (fs' := [.ref q0, .ref q1, .ref q2, .ref q3, .ref q4, .ref q5, .ref q6, .ref q7, .ref q8, .ref q9, .ref q10, .ref q11, .ref q12, .int 0, .int 0]) (by decide +kernel) rfl (by decide) (by decide) rfl rfl rfl (Nat.le_of_ble_eq_true rfl) rfl (by decide +kernel) rfl ?_
  refine kret (fun i => [q0, u0.1 0, q1, u1.1 0, u1.1 1, u1.1 2, q2, u2.1 0, u2.1 1, u2.1 2, u2.1 3, q3, u3.1 0, q4, u4.1 0, u4.1 1, u4.1 2, u4.1 3, q5, u5.1 0, u5.1 1, u5.1 2, q6, u6.1 0, u6.1 1, q7, u7.1 0, u7.1 1, u7.1 2, u7.1 3, u7.1 4, q8, u8.1 0, u8.1 1, u8.1 2, u8.1 3, u8.1 4, q9, u9.1 0, q10, u10.1 0, u10.1 1, q11, u11.1 0, u11.1 1, q12, u12.1 0, u12.1 1].getD i 0, fun g => [u4.2 0, u5.2 0, u9.2 0].getD g (fun _ => 0)) 183 _ ?_ (by decide +kernel)
  simp only [List.append_assoc, List.cons_append, List.nil_append, ct_CannonPost_fs, ct_CannonPost_nw, ct_Tape_nw, ct_Tape_fs, ct_League_nw, ct_League_fs, ct_LeagueReader_nw, ct_LeagueReader_fs, ct_LawReader_nw, ct_LawReader_fs, ct_Lawbook_nw, ct_Lawbook_fs, ct_Planbook_nw, ct_Planbook_fs, ct_Flight_nw, ct_Flight_fs, ct_Paths_nw, ct_Paths_fs, ct_Guesses_nw, ct_Guesses_fs, ct_History_nw, ct_History_fs, ct_State_nw, ct_State_fs, ct_State_nw, ct_State_fs, ct_State_nw, ct_State_fs]
  try rfl
def ct_CannonPostModel_fs (v : Nat → Nat) (u : US) : List Value := [.int 0, .ref (u.1 0), .ref (u.1 1), .ref (u.1 2), .ref (u.1 3), .ref (u.1 0), .int 0, .int 0, .int 0, .int 0, .int 0, .int 0, .int 0, .int 0, .int 0, .ref (v 126), .ref (v 125), .int 0, .ref (u.1 4), .ref (u.1 5), .ref (u.1 6), .ref (u.1 7), .ref (u.1 8), .ref (u.1 9), .ref (u.1 10), .ref (u.1 11), .int 0, .int 0, .int 0, .int 0, .int 0, .int 0, .ref (u.1 12), .ref (u.1 13), .int (-1), .int 0, .ref (u.1 14), .int 0, .long 0, .ref (u.1 15), .int 0, .int 0, .int 0, .ref (u.1 16), .ref (u.1 17), .ref (u.1 18), .int 0, .ref (u.1 19), .ref (u.1 20), .int 0, .ref (u.1 21), .int 0]
def ct_CannonPostModel_nw (T v : Nat → Nat) (u : US) : va_W := [(u.1 0, .inl (T 1, 240, .inl (fun _ => Int32.ofInt 0))), (u.1 1, .inl (T 1, 960, .inl (fun _ => Int32.ofInt 0))), (u.1 2, .inl (T 0, 4, .inl (fun _ => Int32.ofInt 0))), (u.1 3, .inl (T 0, 128, .inl (fun _ => Int32.ofInt 0))), (u.1 4, .inl (T 0, 4, .inl (fun _ => Int32.ofInt 0))), (u.1 5, .inl (T 0, 4, .inl (fun _ => Int32.ofInt 0))), (u.1 6, .inl (T 0, 24, .inl (fun _ => Int32.ofInt 0))), (u.1 7, .inl (T 0, 24, .inl (fun _ => Int32.ofInt 0))), (u.1 8, .inl (T 0, 15, .inl (fun _ => Int32.ofInt 0))), (u.1 9, .inl (T 0, 15, .inl (fun _ => Int32.ofInt 0))), (u.1 10, .inl (T 0, 320, .inl (fun _ => Int32.ofInt 0))), (u.1 11, .inl (T 0, 5, .inl (fun _ => Int32.ofInt 0))), (u.1 12, .inl (T 0, 277, .inl (fun _ => Int32.ofInt 0))), (u.1 13, .inl (T 0, 277, .inl (fun _ => Int32.ofInt 0))), (u.1 14, .inl (T 0, 11080, .inl (fun _ => Int32.ofInt 0))), (u.1 15, .inl (T 0, 320, .inl (fun _ => Int32.ofInt 0))), (u.1 16, .inl (T 0, 5, .inl (fun _ => Int32.ofInt 0))), (u.1 17, .inl (T 0, 50, .inl (fun _ => Int32.ofInt 0))), (u.1 18, .inl (T 0, 128, .inl (fun _ => Int32.ofInt 0))), (u.1 19, .inl (T 0, 12, .inl (fun _ => Int32.ofInt 0))), (u.1 20, .inl (T 2, 12, .inl (fun _ => Int32.ofInt 0))), (u.1 21, .inl (T 0, 277, .inl (fun _ => Int32.ofInt 0)))]
set_option maxHeartbeats 4000000 in
set_option maxRecDepth 100000 in
theorem ct_CannonPostModel (l : Launch) (D : va_G) (T v : Nat → Nat) (A : Nat → Prop) (h0 : Nat) (ws : va_W) : Met l (⟨"CannonPostModel", "<init>", "()V"⟩ : MethodName) (Cond.code (⟨"CannonPostModel", "<init>", "()V"⟩ : MethodName) prog_14_method_1_code 1 none :: gT) (rmC 1 22 14181) (CtP D T v A h0 12 [.int 0, .null, .null, .null, .null, .null, .int 0, .int 0, .int 0, .int 0, .int 0, .int 0, .int 0, .int 0, .int 0, .null, .null, .int 0, .null, .null, .null, .null, .null, .null, .null, .null, .int 0, .int 0, .int 0, .int 0, .int 0, .int 0, .null, .null, .int 0, .int 0, .null, .int 0, .long 0, .null, .int 0, .int 0, .int 0, .null, .null, .null, .int 0, .null, .null, .int 0, .null, .int 0] [] ws) (CtQ D A h0 12 (ct_CannonPostModel_fs v) ws (ct_CannonPostModel_nw T v)) 22 14181 A := by
  refine ct_met (by decide +kernel) rfl (Nat.le_of_ble_eq_true rfl) (fun p e s m args below meth c ls K hname hl kret => ?_)
  have hl : lv_has ls 1 [(0, .ref h0)] := hl
  have K : CC p s m args c D T v A "CannonPostModel" prog_14_method_1_code 1 ls := K
  refine ct_aload K 1 0 (by decide +kernel) (lv_at hl 0 rfl) rfl ?_
  refine ct_obj K 4 (ctW _ (List.mem_of_getElem? (i := 83) rfl)) (ctW _ (List.mem_of_getElem? (i := 0) rfl)) (ctW _ (List.mem_of_getElem? (i := 1) rfl)) (by decide +kernel) rfl (Nat.le_of_ble_eq_true rfl) (Nat.le_of_ble_eq_true rfl) ?_
  refine ct_aload K 5 0 (by decide +kernel) (lv_at hl 0 rfl) rfl ?_
  refine ct_sipush K 8 (n := 240) (240) (by decide +kernel) (by decide) rfl ?_
  refine ct_newa K 10 (atype := .byte) (N := 240) (t0 := 1) (a0 := (240, .inl (fun _ => Int32.ofInt 0))) (by decide +kernel) rfl rfl (fun _ _ => rfl) (ctW _ (List.mem_of_getElem? (i := 3) rfl)) (fun _ => rfl) (by decide) (by decide) (Nat.le_of_ble_eq_true rfl) rfl (Nat.le_of_ble_eq_true rfl) (Nat.le_of_ble_eq_true rfl) (fun q0 => ?_)
  refine ct_putA K hname 13 (o := 12) (idx := 9) (ci := 12) (k := 1) (fs' := [.int 0, .ref q0, .null, .null, .null, .null, .int 0, .int 0, .int 0, .int 0, .int 0, .int 0, .int 0, .int 0, .int 0, .null, .null, .int 0, .null, .null, .null, .null, .null, .null, .null, .null, .int 0, .int 0, .int 0, .int 0, .int 0, .int 0, .null, .null, .int 0, .int 0, .null, .int 0, .long 0, .null, .int 0, .int 0, .int 0, .null, .null, .null, .int 0, .null, .null, .int 0, .null, .int 0]) (by decide +kernel) rfl (by decide) (by decide) rfl rfl rfl (Nat.le_of_ble_eq_true rfl) rfl (by decide +kernel) rfl ?_
  refine ct_aload K 14 0 (by decide +kernel) (lv_at hl 0 rfl) rfl ?_
  refine ct_sipush K 17 (n := 960) (960) (by decide +kernel) (by decide) rfl ?_
  refine ct_newa K 19 (atype := .byte) (N := 960) (t0 := 1) (a0 := (960, .inl (fun _ => Int32.ofInt 0))) (by decide +kernel) rfl rfl (fun _ _ => rfl) (ctW _ (List.mem_of_getElem? (i := 3) rfl)) (fun _ => rfl) (by decide) (by decide) (Nat.le_of_ble_eq_true rfl) rfl (Nat.le_of_ble_eq_true rfl) (Nat.le_of_ble_eq_true rfl) (fun q1 => ?_)
  refine ct_putA K hname 22 (o := 12) (idx := 13) (ci := 12) (k := 2) (fs' := [.int 0, .ref q0, .ref q1, .null, .null, .null, .int 0, .int 0, .int 0, .int 0, .int 0, .int 0, .int 0, .int 0, .int 0, .null, .null, .int 0, .null, .null, .null, .null, .null, .null, .null, .null, .int 0, .int 0, .int 0, .int 0, .int 0, .int 0, .null, .null, .int 0, .int 0, .null, .int 0, .long 0, .null, .int 0, .int 0, .int 0, .null, .null, .null, .int 0, .null, .null, .int 0, .null, .int 0]) (by decide +kernel) rfl (by decide) (by decide) rfl rfl rfl (Nat.le_of_ble_eq_true rfl) rfl (by decide +kernel) rfl ?_
  refine ct_aload K 23 0 (by decide +kernel) (lv_at hl 0 rfl) rfl ?_
  refine ct_iconst K 24 (n := 4) (4) (by decide +kernel) (by decide) rfl ?_
  refine ct_newa K 26 (atype := .int) (N := 4) (t0 := 0) (a0 := (4, .inl (fun _ => Int32.ofInt 0))) (by decide +kernel) rfl rfl (fun _ _ => rfl) (ctW _ (List.mem_of_getElem? (i := 2) rfl)) (fun _ => rfl) (by decide) (by decide) (Nat.le_of_ble_eq_true rfl) rfl (Nat.le_of_ble_eq_true rfl) (Nat.le_of_ble_eq_true rfl) (fun q2 => ?_)
  refine ct_putA K hname 29 (o := 12) (idx := 16) (ci := 12) (k := 3) (fs' := [.int 0, .ref q0, .ref q1, .ref q2, .null, .null, .int 0, .int 0, .int 0, .int 0, .int 0, .int 0, .int 0, .int 0, .int 0, .null, .null, .int 0, .null, .null, .null, .null, .null, .null, .null, .null, .int 0, .int 0, .int 0, .int 0, .int 0, .int 0, .null, .null, .int 0, .int 0, .null, .int 0, .long 0, .null, .int 0, .int 0, .int 0, .null, .null, .null, .int 0, .null, .null, .int 0, .null, .int 0]) (by decide +kernel) rfl (by decide) (by decide) rfl rfl rfl (Nat.le_of_ble_eq_true rfl) rfl (by decide +kernel) rfl ?_
  refine ct_aload K 30 0 (by decide +kernel) (lv_at hl 0 rfl) rfl ?_
  refine ct_sipush K 33 (n := 128) (128) (by decide +kernel) (by decide) rfl ?_
  refine ct_newa K 35 (atype := .int) (N := 128) (t0 := 0) (a0 := (128, .inl (fun _ => Int32.ofInt 0))) (by decide +kernel) rfl rfl (fun _ _ => rfl) (ctW _ (List.mem_of_getElem? (i := 2) rfl)) (fun _ => rfl) (by decide) (by decide) (Nat.le_of_ble_eq_true rfl) rfl (Nat.le_of_ble_eq_true rfl) (Nat.le_of_ble_eq_true rfl) (fun q3 => ?_)
  refine ct_putA K hname 38 (o := 12) (idx := 20) (ci := 12) (k := 4) (fs' := [.int 0, .ref q0, .ref q1, .ref q2, .ref q3, .null, .int 0, .int 0, .int 0, .int 0, .int 0, .int 0, .int 0, .int 0, .int 0, .null, .null, .int 0, .null, .null, .null, .null, .null, .null, .null, .null, .int 0, .int 0, .int 0, .int 0, .int 0, .int 0, .null, .null, .int 0, .int 0, .null, .int 0, .long 0, .null, .int 0, .int 0, .int 0, .null, .null, .null, .int 0, .null, .null, .int 0, .null, .int 0]) (by decide +kernel) rfl (by decide) (by decide) rfl rfl rfl (Nat.le_of_ble_eq_true rfl) rfl (by decide +kernel) rfl ?_
  refine ct_aload K 39 0 (by decide +kernel) (lv_at hl 0 rfl) rfl ?_
  refine ct_aload K 40 0 (by decide +kernel) (lv_at hl 0 rfl) rfl ?_
  refine ct_get K 43 (o := 12) (idx := 9) (ci := 12) (k := 1) (by decide +kernel) rfl (by decide) (by decide) rfl (by decide +kernel) rfl ?_
  refine ct_put K hname 46 (o := 12) (idx := 23) (ci := 12) (k := 5) (fs' := [.int 0, .ref q0, .ref q1, .ref q2, .ref q3, .ref q0, .int 0, .int 0, .int 0, .int 0, .int 0, .int 0, .int 0, .int 0, .int 0, .null, .null, .int 0, .null, .null, .null, .null, .null, .null, .null, .null, .int 0, .int 0, .int 0, .int 0, .int 0, .int 0, .null, .null, .int 0, .int 0, .null, .int 0, .long 0, .null, .int 0, .int 0, .int 0, .null, .null, .null, .int 0, .null, .null, .int 0, .null, .int 0]) (by decide +kernel) rfl (by decide) (by decide) rfl rfl rfl (Nat.le_of_ble_eq_true rfl) rfl (by decide +kernel) rfl ?_
  refine ct_aload K 47 0 (by decide +kernel) (lv_at hl 0 rfl) rfl ?_
  refine ct_ldcS K 49 (o := 12) (i := 26) (a := 126) (by decide +kernel) rfl (by decide +kernel) rfl ?_
  refine ct_put K hname 52 (o := 12) (idx := 28) (ci := 12) (k := 15) (fs' := [.int 0, .ref q0, .ref q1, .ref q2, .ref q3, .ref q0, .int 0, .int 0, .int 0, .int 0, .int 0, .int 0, .int 0, .int 0, .int 0, .ref (v 126), .null, .int 0, .null, .null, .null, .null, .null, .null, .null, .null, .int 0, .int 0, .int 0, .int 0, .int 0, .int 0, .null, .null, .int 0, .int 0, .null, .int 0, .long 0, .null, .int 0, .int 0, .int 0, .null, .null, .null, .int 0, .null, .null, .int 0, .null, .int 0]) (by decide +kernel) rfl (by decide) (by decide) rfl rfl rfl (Nat.le_of_ble_eq_true rfl) rfl (by decide +kernel) rfl ?_
  refine ct_aload K 53 0 (by decide +kernel) (lv_at hl 0 rfl) rfl ?_
  refine ct_ldcS K 55 (o := 12) (i := 32) (a := 125) (by decide +kernel) rfl (by decide +kernel) rfl ?_
  refine ct_put K hname 58 (o := 12) (idx := 34) (ci := 12) (k := 16) (fs' := [.int 0, .ref q0, .ref q1, .ref q2, .ref q3, .ref q0, .int 0, .int 0, .int 0, .int 0, .int 0, .int 0, .int 0, .int 0, .int 0, .ref (v 126), .ref (v 125), .int 0, .null, .null, .null, .null, .null, .null, .null, .null, .int 0, .int 0, .int 0, .int 0, .int 0, .int 0, .null, .null, .int 0, .int 0, .null, .int 0, .long 0, .null, .int 0, .int 0, .int 0, .null, .null, .null, .int 0, .null, .null, .int 0, .null, .int 0]) (by decide +kernel) rfl (by decide) (by decide) rfl rfl rfl (Nat.le_of_ble_eq_true rfl) rfl (by decide +kernel) rfl ?_
  refine ct_aload K 59 0 (by decide +kernel) (lv_at hl 0 rfl) rfl ?_
  refine ct_iconst K 60 (n := 4) (4) (by decide +kernel) (by decide) rfl ?_
  refine ct_newa K 62 (atype := .int) (N := 4) (t0 := 0) (a0 := (4, .inl (fun _ => Int32.ofInt 0))) (by decide +kernel) rfl rfl (fun _ _ => rfl) (ctW _ (List.mem_of_getElem? (i := 2) rfl)) (fun _ => rfl) (by decide) (by decide) (Nat.le_of_ble_eq_true rfl) rfl (Nat.le_of_ble_eq_true rfl) (Nat.le_of_ble_eq_true rfl) (fun q4 => ?_)
  refine ct_putA K hname 65 (o := 12) (idx := 37) (ci := 12) (k := 18) (fs' := [.int 0, .ref q0, .ref q1, .ref q2, .ref q3, .ref q0, .int 0, .int 0, .int 0, .int 0, .int 0, .int 0, .int 0, .int 0, .int 0, .ref (v 126), .ref (v 125), .int 0, .ref q4, .null, .null, .null, .null, .null, .null, .null, .int 0, .int 0, .int 0, .int 0, .int 0, .int 0, .null, .null, .int 0, .int 0, .null, .int 0, .long 0, .null, .int 0, .int 0, .int 0, .null, .null, .null, .int 0, .null, .null, .int 0, .null, .int 0]) (by decide +kernel) rfl (by decide) (by decide) rfl rfl rfl (Nat.le_of_ble_eq_true rfl) rfl (by decide +kernel) rfl ?_
  refine ct_aload K 66 0 (by decide +kernel) (lv_at hl 0 rfl) rfl ?_
  refine ct_iconst K 67 (n := 4) (4) (by decide +kernel) (by decide) rfl ?_
  refine ct_newa K 69 (atype := .int) (N := 4) (t0 := 0) (a0 := (4, .inl (fun _ => Int32.ofInt 0))) (by decide +kernel) rfl rfl (fun _ _ => rfl) (ctW _ (List.mem_of_getElem? (i := 2) rfl)) (fun _ => rfl) (by decide) (by decide) (Nat.le_of_ble_eq_true rfl) rfl (Nat.le_of_ble_eq_true rfl) (Nat.le_of_ble_eq_true rfl) (fun q5 => ?_)
  refine ct_putA K hname 72 (o := 12) (idx := 40) (ci := 12) (k := 19) (fs' := [.int 0, .ref q0, .ref q1, .ref q2, .ref q3, .ref q0, .int 0, .int 0, .int 0, .int 0, .int 0, .int 0, .int 0, .int 0, .int 0, .ref (v 126), .ref (v 125), .int 0, .ref q4, .ref q5, .null, .null, .null, .null, .null, .null, .int 0, .int 0, .int 0, .int 0, .int 0, .int 0, .null, .null, .int 0, .int 0, .null, .int 0, .long 0, .null, .int 0, .int 0, .int 0, .null, .null, .null, .int 0, .null, .null, .int 0, .null, .int 0]) (by decide +kernel) rfl (by decide) (by decide) rfl rfl rfl (Nat.le_of_ble_eq_true rfl) rfl (by decide +kernel) rfl ?_
  refine ct_aload K 73 0 (by decide +kernel) (lv_at hl 0 rfl) rfl ?_
  refine ct_bipush K 75 (n := 24) (24) (by decide +kernel) (by decide) rfl ?_
  refine ct_newa K 77 (atype := .int) (N := 24) (t0 := 0) (a0 := (24, .inl (fun _ => Int32.ofInt 0))) (by decide +kernel) rfl rfl (fun _ _ => rfl) (ctW _ (List.mem_of_getElem? (i := 2) rfl)) (fun _ => rfl) (by decide) (by decide) (Nat.le_of_ble_eq_true rfl) rfl (Nat.le_of_ble_eq_true rfl) (Nat.le_of_ble_eq_true rfl) (fun q6 => ?_)
  refine ct_putA K hname 80 (o := 12) (idx := 43) (ci := 12) (k := 20) (fs' := [.int 0, .ref q0, .ref q1, .ref q2, .ref q3, .ref q0, .int 0, .int 0, .int 0, .int 0, .int 0, .int 0, .int 0, .int 0, .int 0, .ref (v 126), .ref (v 125), .int 0, .ref q4, .ref q5, .ref q6, .null, .null, .null, .null, .null, .int 0, .int 0, .int 0, .int 0, .int 0, .int 0, .null, .null, .int 0, .int 0, .null, .int 0, .long 0, .null, .int 0, .int 0, .int 0, .null, .null, .null, .int 0, .null, .null, .int 0, .null, .int 0]) (by decide +kernel) rfl (by decide) (by decide) rfl rfl rfl (Nat.le_of_ble_eq_true rfl) rfl (by decide +kernel) rfl ?_
  refine ct_aload K 81 0 (by decide +kernel) (lv_at hl 0 rfl) rfl ?_
  refine ct_bipush K 83 (n := 24) (24) (by decide +kernel) (by decide) rfl ?_
  refine ct_newa K 85 (atype := .int) (N := 24) (t0 := 0) (a0 := (24, .inl (fun _ => Int32.ofInt 0))) (by decide +kernel) rfl rfl (fun _ _ => rfl) (ctW _ (List.mem_of_getElem? (i := 2) rfl)) (fun _ => rfl) (by decide) (by decide) (Nat.le_of_ble_eq_true rfl) rfl (Nat.le_of_ble_eq_true rfl) (Nat.le_of_ble_eq_true rfl) (fun q7 => ?_)
  refine ct_putA K hname 88 (o := 12) (idx := 46) (ci := 12) (k := 21) (fs' := [.int 0, .ref q0, .ref q1, .ref q2, .ref q3, .ref q0, .int 0, .int 0, .int 0, .int 0, .int 0, .int 0, .int 0, .int 0, .int 0, .ref (v 126), .ref (v 125), .int 0, .ref q4, .ref q5, .ref q6, .ref q7, .null, .null, .null, .null, .int 0, .int 0, .int 0, .int 0, .int 0, .int 0, .null, .null, .int 0, .int 0, .null, .int 0, .long 0, .null, .int 0, .int 0, .int 0, .null, .null, .null, .int 0, .null, .null, .int 0, .null, .int 0]) (by decide +kernel) rfl (by decide) (by decide) rfl rfl rfl (Nat.le_of_ble_eq_true rfl) rfl (by decide +kernel) rfl ?_
  refine ct_aload K 89 0 (by decide +kernel) (lv_at hl 0 rfl) rfl ?_
  refine ct_bipush K 91 (n := 15) (15) (by decide +kernel) (by decide) rfl ?_
  refine ct_newa K 93 (atype := .int) (N := 15) (t0 := 0) (a0 := (15, .inl (fun _ => Int32.ofInt 0))) (by decide +kernel) rfl rfl (fun _ _ => rfl) (ctW _ (List.mem_of_getElem? (i := 2) rfl)) (fun _ => rfl) (by decide) (by decide) (Nat.le_of_ble_eq_true rfl) rfl (Nat.le_of_ble_eq_true rfl) (Nat.le_of_ble_eq_true rfl) (fun q8 => ?_)
  refine ct_putA K hname 96 (o := 12) (idx := 49) (ci := 12) (k := 22) (fs' := [.int 0, .ref q0, .ref q1, .ref q2, .ref q3, .ref q0, .int 0, .int 0, .int 0, .int 0, .int 0, .int 0, .int 0, .int 0, .int 0, .ref (v 126), .ref (v 125), .int 0, .ref q4, .ref q5, .ref q6, .ref q7, .ref q8, .null, .null, .null, .int 0, .int 0, .int 0, .int 0, .int 0, .int 0, .null, .null, .int 0, .int 0, .null, .int 0, .long 0, .null, .int 0, .int 0, .int 0, .null, .null, .null, .int 0, .null, .null, .int 0, .null, .int 0]) (by decide +kernel) rfl (by decide) (by decide) rfl rfl rfl (Nat.le_of_ble_eq_true rfl) rfl (by decide +kernel) rfl ?_
  refine ct_aload K 97 0 (by decide +kernel) (lv_at hl 0 rfl) rfl ?_
  refine ct_bipush K 99 (n := 15) (15) (by decide +kernel) (by decide) rfl ?_
  refine ct_newa K 101 (atype := .int) (N := 15) (t0 := 0) (a0 := (15, .inl (fun _ => Int32.ofInt 0))) (by decide +kernel) rfl rfl (fun _ _ => rfl) (ctW _ (List.mem_of_getElem? (i := 2) rfl)) (fun _ => rfl) (by decide) (by decide) (Nat.le_of_ble_eq_true rfl) rfl (Nat.le_of_ble_eq_true rfl) (Nat.le_of_ble_eq_true rfl) (fun q9 => ?_)
  refine ct_putA K hname 104 (o := 12) (idx := 52) (ci := 12) (k := 23) (fs' := [.int 0, .ref q0, .ref q1, .ref q2, .ref q3, .ref q0, .int 0, .int 0, .int 0, .int 0, .int 0, .int 0, .int 0, .int 0, .int 0, .ref (v 126), .ref (v 125), .int 0, .ref q4, .ref q5, .ref q6, .ref q7, .ref q8, .ref q9, .null, .null, .int 0, .int 0, .int 0, .int 0, .int 0, .int 0, .null, .null, .int 0, .int 0, .null, .int 0, .long 0, .null, .int 0, .int 0, .int 0, .null, .null, .null, .int 0, .null, .null, .int 0, .null, .int 0]) (by decide +kernel) rfl (by decide) (by decide) rfl rfl rfl (Nat.le_of_ble_eq_true rfl) rfl (by decide +kernel) rfl ?_
  refine ct_aload K 105 0 (by decide +kernel) (lv_at hl 0 rfl) rfl ?_
  refine ct_sipush K 108 (n := 320) (320) (by decide +kernel) (by decide) rfl ?_
  refine ct_newa K 110 (atype := .int) (N := 320) (t0 := 0) (a0 := (320, .inl (fun _ => Int32.ofInt 0))) (by decide +kernel) rfl rfl (fun _ _ => rfl) (ctW _ (List.mem_of_getElem? (i := 2) rfl)) (fun _ => rfl) (by decide) (by decide) (Nat.le_of_ble_eq_true rfl) rfl (Nat.le_of_ble_eq_true rfl) (Nat.le_of_ble_eq_true rfl) (fun q10 => ?_)
  refine ct_putA K hname 113 (o := 12) (idx := 55) (ci := 12) (k := 24) (fs' := [.int 0, .ref q0, .ref q1, .ref q2, .ref q3, .ref q0, .int 0, .int 0, .int 0, .int 0, .int 0, .int 0, .int 0, .int 0, .int 0, .ref (v 126), .ref (v 125), .int 0, .ref q4, .ref q5, .ref q6, .ref q7, .ref q8, .ref q9, .ref q10, .null, .int 0, .int 0, .int 0, .int 0, .int 0, .int 0, .null, .null, .int 0, .int 0, .null, .int 0, .long 0, .null, .int 0, .int 0, .int 0, .null, .null, .null, .int 0, .null, .null, .int 0, .null, .int 0]) (by decide +kernel) rfl (by decide) (by decide) rfl rfl rfl (Nat.le_of_ble_eq_true rfl) rfl (by decide +kernel) rfl ?_
  refine ct_aload K 114 0 (by decide +kernel) (lv_at hl 0 rfl) rfl ?_
  refine ct_iconst K 115 (n := 5) (5) (by decide +kernel) (by decide) rfl ?_
  refine ct_newa K 117 (atype := .int) (N := 5) (t0 := 0) (a0 := (5, .inl (fun _ => Int32.ofInt 0))) (by decide +kernel) rfl rfl (fun _ _ => rfl) (ctW _ (List.mem_of_getElem? (i := 2) rfl)) (fun _ => rfl) (by decide) (by decide) (Nat.le_of_ble_eq_true rfl) rfl (Nat.le_of_ble_eq_true rfl) (Nat.le_of_ble_eq_true rfl) (fun q11 => ?_)
  refine ct_putA K hname 120 (o := 12) (idx := 58) (ci := 12) (k := 25) (fs' := [.int 0, .ref q0, .ref q1, .ref q2, .ref q3, .ref q0, .int 0, .int 0, .int 0, .int 0, .int 0, .int 0, .int 0, .int 0, .int 0, .ref (v 126), .ref (v 125), .int 0, .ref q4, .ref q5, .ref q6, .ref q7, .ref q8, .ref q9, .ref q10, .ref q11, .int 0, .int 0, .int 0, .int 0, .int 0, .int 0, .null, .null, .int 0, .int 0, .null, .int 0, .long 0, .null, .int 0, .int 0, .int 0, .null, .null, .null, .int 0, .null, .null, .int 0, .null, .int 0]) (by decide +kernel) rfl (by decide) (by decide) rfl rfl rfl (Nat.le_of_ble_eq_true rfl) rfl (by decide +kernel) rfl ?_
  refine ct_aload K 121 0 (by decide +kernel) (lv_at hl 0 rfl) rfl ?_
  refine ct_sipush K 124 (n := 277) (277) (by decide +kernel) (by decide) rfl ?_
  refine ct_newa K 126 (atype := .int) (N := 277) (t0 := 0) (a0 := (277, .inl (fun _ => Int32.ofInt 0))) (by decide +kernel) rfl rfl (fun _ _ => rfl) (ctW _ (List.mem_of_getElem? (i := 2) rfl)) (fun _ => rfl) (by decide) (by decide) (Nat.le_of_ble_eq_true rfl) rfl (Nat.le_of_ble_eq_true rfl) (Nat.le_of_ble_eq_true rfl) (fun q12 => ?_)
  refine ct_putA K hname 129 (o := 12) (idx := 61) (ci := 12) (k := 32) (fs' := [.int 0, .ref q0, .ref q1, .ref q2, .ref q3, .ref q0, .int 0, .int 0, .int 0, .int 0, .int 0, .int 0, .int 0, .int 0, .int 0, .ref (v 126), .ref (v 125), .int 0, .ref q4, .ref q5, .ref q6, .ref q7, .ref q8, .ref q9, .ref q10, .ref q11, .int 0, .int 0, .int 0, .int 0, .int 0, .int 0, .ref q12, .null, .int 0, .int 0, .null, .int 0, .long 0, .null, .int 0, .int 0, .int 0, .null, .null, .null, .int 0, .null, .null, .int 0, .null, .int 0]) (by decide +kernel) rfl (by decide) (by decide) rfl rfl rfl (Nat.le_of_ble_eq_true rfl) rfl (by decide +kernel) rfl ?_
  refine ct_aload K 130 0 (by decide +kernel) (lv_at hl 0 rfl) rfl ?_
  refine ct_sipush K 133 (n := 277) (277) (by decide +kernel) (by decide) rfl ?_
  refine ct_newa K 135 (atype := .int) (N := 277) (t0 := 0) (a0 := (277, .inl (fun _ => Int32.ofInt 0))) (by decide +kernel) rfl rfl (fun _ _ => rfl) (ctW _ (List.mem_of_getElem? (i := 2) rfl)) (fun _ => rfl) (by decide) (by decide) (Nat.le_of_ble_eq_true rfl) rfl (Nat.le_of_ble_eq_true rfl) (Nat.le_of_ble_eq_true rfl) (fun q13 => ?_)
  refine ct_putA K hname 138 (o := 12) (idx := 64) (ci := 12) (k := 33) (fs' := [.int 0, .ref q0, .ref q1, .ref q2, .ref q3, .ref q0, .int 0, .int 0, .int 0, .int 0, .int 0, .int 0, .int 0, .int 0, .int 0, .ref (v 126), .ref (v 125), .int 0, .ref q4, .ref q5, .ref q6, .ref q7, .ref q8, .ref q9, .ref q10, .ref q11, .int 0, .int 0, .int 0, .int 0, .int 0, .int 0, .ref q12, .ref q13, .int 0, .int 0, .null, .int 0, .long 0, .null, .int 0, .int 0, .int 0, .null, .null, .null, .int 0, .null, .null, .int 0, .null, .int 0]) (by decide +kernel) rfl (by decide) (by decide) rfl rfl rfl (Nat.le_of_ble_eq_true rfl) rfl (by decide +kernel) rfl ?_
  refine ct_aload K 139 0 (by decide +kernel) (lv_at hl 0 rfl) rfl ?_
  refine ct_iconst K 140 (n := -1) (-1) (by decide +kernel) (by decide) rfl ?_
  refine ct_put K hname 143 (o := 12) (idx := 67) (ci := 12) (k := 34) (fs' := [.int 0, .ref q0, .ref q1, .ref q2, .ref q3, .ref q0, .int 0, .int 0, .int 0, .int 0, .int 0, .int 0, .int 0, .int 0, .int 0, .ref (v 126), .ref (v 125), .int 0, .ref q4, .ref q5, .ref q6, .ref q7, .ref q8, .ref q9, .ref q10, .ref q11, .int 0, .int 0, .int 0, .int 0, .int 0, .int 0, .ref q12, .ref q13, .int (-1), .int 0, .null, .int 0, .long 0, .null, .int 0, .int 0, .int 0, .null, .null, .null, .int 0, .null, .null, .int 0, .null, .int 0]) (by decide +kernel) rfl (by decide) (by decide) rfl rfl rfl (Nat.le_of_ble_eq_true rfl) rfl (by decide +kernel) rfl ?_
  refine ct_aload K 144 0 (by decide +kernel) (lv_at hl 0 rfl) rfl ?_
  refine ct_sipush K 147 (n := 11080) (11080) (by decide +kernel) (by decide) rfl ?_
  refine ct_newa K 149 (atype := .int) (N := 11080) (t0 := 0) (a0 := (11080, .inl (fun _ => Int32.ofInt 0))) (by decide +kernel) rfl rfl (fun _ _ => rfl) (ctW _ (List.mem_of_getElem? (i := 2) rfl)) (fun _ => rfl) (by decide) (by decide) (Nat.le_of_ble_eq_true rfl) rfl (Nat.le_of_ble_eq_true rfl) (Nat.le_of_ble_eq_true rfl) (fun q14 => ?_)
  refine ct_putA K hname 152 (o := 12) (idx := 71) (ci := 12) (k := 36) (fs' := [.int 0, .ref q0, .ref q1, .ref q2, .ref q3, .ref q0, .int 0, .int 0, .int 0, .int 0, .int 0, .int 0, .int 0, .int 0, .int 0, .ref (v 126), .ref (v 125), .int 0, .ref q4, .ref q5, .ref q6, .ref q7, .ref q8, .ref q9, .ref q10, .ref q11, .int 0, .int 0, .int 0, .int 0, .int 0, .int 0, .ref q12, .ref q13, .int (-1), .int 0, .ref q14, .int 0, .long 0, .null, .int 0, .int 0, .int 0, .null, .null, .null, .int 0, .null, .null, .int 0, .null, .int 0]) (by decide +kernel) rfl (by decide) (by decide) rfl rfl rfl (Nat.le_of_ble_eq_true rfl) rfl (by decide +kernel) rfl ?_
  refine ct_aload K 153 0 (by decide +kernel) (lv_at hl 0 rfl) rfl ?_
  refine ct_sipush K 156 (n := 320) (320) (by decide +kernel) (by decide) rfl ?_
  refine ct_newa K 158 (atype := .int) (N := 320) (t0 := 0) (a0 := (320, .inl (fun _ => Int32.ofInt 0))) (by decide +kernel) rfl rfl (fun _ _ => rfl) (ctW _ (List.mem_of_getElem? (i := 2) rfl)) (fun _ => rfl) (by decide) (by decide) (Nat.le_of_ble_eq_true rfl) rfl (Nat.le_of_ble_eq_true rfl) (Nat.le_of_ble_eq_true rfl) (fun q15 => ?_)
  refine ct_putA K hname 161 (o := 12) (idx := 74) (ci := 12) (k := 39) (fs' := [.int 0, .ref q0, .ref q1, .ref q2, .ref q3, .ref q0, .int 0, .int 0, .int 0, .int 0, .int 0, .int 0, .int 0, .int 0, .int 0, .ref (v 126), .ref (v 125), .int 0, .ref q4, .ref q5, .ref q6, .ref q7, .ref q8, .ref q9, .ref q10, .ref q11, .int 0, .int 0, .int 0, .int 0, .int 0, .int 0, .ref q12, .ref q13, .int (-1), .int 0, .ref q14, .int 0, .long 0, .ref q15, .int 0, .int 0, .int 0, .null, .null, .null, .int 0, .null, .null, .int 0, .null, .int 0]) (by decide +kernel) rfl (by decide) (by decide) rfl rfl rfl (Nat.le_of_ble_eq_true rfl) rfl (by decide +kernel) rfl ?_
  refine ct_aload K 162 0 (by decide +kernel) (lv_at hl 0 rfl) rfl ?_
  refine ct_iconst K 163 (n := 5) (5) (by decide +kernel) (by decide) rfl ?_
  refine ct_newa K 165 (atype := .int) (N := 5) (t0 := 0) (a0 := (5, .inl (fun _ => Int32.ofInt 0))) (by decide +kernel) rfl rfl (fun _ _ => rfl) (ctW _ (List.mem_of_getElem? (i := 2) rfl)) (fun _ => rfl) (by decide) (by decide) (Nat.le_of_ble_eq_true rfl) rfl (Nat.le_of_ble_eq_true rfl) (Nat.le_of_ble_eq_true rfl) (fun q16 => ?_)
  refine ct_putA K hname 168 (o := 12) (idx := 77) (ci := 12) (k := 43) (fs' := [.int 0, .ref q0, .ref q1, .ref q2, .ref q3, .ref q0, .int 0, .int 0, .int 0, .int 0, .int 0, .int 0, .int 0, .int 0, .int 0, .ref (v 126), .ref (v 125), .int 0, .ref q4, .ref q5, .ref q6, .ref q7, .ref q8, .ref q9, .ref q10, .ref q11, .int 0, .int 0, .int 0, .int 0, .int 0, .int 0, .ref q12, .ref q13, .int (-1), .int 0, .ref q14, .int 0, .long 0, .ref q15, .int 0, .int 0, .int 0, .ref q16, .null, .null, .int 0, .null, .null, .int 0, .null, .int 0]) (by decide +kernel) rfl (by decide) (by decide) rfl rfl rfl (Nat.le_of_ble_eq_true rfl) rfl (by decide +kernel) rfl ?_
  refine ct_aload K 169 0 (by decide +kernel) (lv_at hl 0 rfl) rfl ?_
  refine ct_bipush K 171 (n := 50) (50) (by decide +kernel) (by decide) rfl ?_
  refine ct_newa K 173 (atype := .int) (N := 50) (t0 := 0) (a0 := (50, .inl (fun _ => Int32.ofInt 0))) (by decide +kernel) rfl rfl (fun _ _ => rfl) (ctW _ (List.mem_of_getElem? (i := 2) rfl)) (fun _ => rfl) (by decide) (by decide) (Nat.le_of_ble_eq_true rfl) rfl (Nat.le_of_ble_eq_true rfl) (Nat.le_of_ble_eq_true rfl) (fun q17 => ?_)
  refine ct_putA K hname 176 (o := 12) (idx := 80) (ci := 12) (k := 44) (fs' := [.int 0, .ref q0, .ref q1, .ref q2, .ref q3, .ref q0, .int 0, .int 0, .int 0, .int 0, .int 0, .int 0, .int 0, .int 0, .int 0, .ref (v 126), .ref (v 125), .int 0, .ref q4, .ref q5, .ref q6, .ref q7, .ref q8, .ref q9, .ref q10, .ref q11, .int 0, .int 0, .int 0, .int 0, .int 0, .int 0, .ref q12, .ref q13, .int (-1), .int 0, .ref q14, .int 0, .long 0, .ref q15, .int 0, .int 0, .int 0, .ref q16, .ref q17, .null, .int 0, .null, .null, .int 0, .null, .int 0]) (by decide +kernel) rfl (by decide) (by decide) rfl rfl rfl (Nat.le_of_ble_eq_true rfl) rfl (by decide +kernel) rfl ?_
  refine ct_aload K 177 0 (by decide +kernel) (lv_at hl 0 rfl) rfl ?_
  refine ct_sipush K 180 (n := 128) (128) (by decide +kernel) (by decide) rfl ?_
  refine ct_newa K 182 (atype := .int) (N := 128) (t0 := 0) (a0 := (128, .inl (fun _ => Int32.ofInt 0))) (by decide +kernel) rfl rfl (fun _ _ => rfl) (ctW _ (List.mem_of_getElem? (i := 2) rfl)) (fun _ => rfl) (by decide) (by decide) (Nat.le_of_ble_eq_true rfl) rfl (Nat.le_of_ble_eq_true rfl) (Nat.le_of_ble_eq_true rfl) (fun q18 => ?_)
  refine ct_putA K hname 185 (o := 12) (idx := 83) (ci := 12) (k := 45) (fs' := [.int 0, .ref q0, .ref q1, .ref q2, .ref q3, .ref q0, .int 0, .int 0, .int 0, .int 0, .int 0, .int 0, .int 0, .int 0, .int 0, .ref (v 126), .ref (v 125), .int 0, .ref q4, .ref q5, .ref q6, .ref q7, .ref q8, .ref q9, .ref q10, .ref q11, .int 0, .int 0, .int 0, .int 0, .int 0, .int 0, .ref q12, .ref q13, .int (-1), .int 0, .ref q14, .int 0, .long 0, .ref q15, .int 0, .int 0, .int 0, .ref q16, .ref q17, .ref q18, .int 0, .null, .null, .int 0, .null, .int 0]) (by decide +kernel) rfl (by decide) (by decide) rfl rfl rfl (Nat.le_of_ble_eq_true rfl) rfl (by decide +kernel) rfl ?_
  refine ct_aload K 186 0 (by decide +kernel) (lv_at hl 0 rfl) rfl ?_
  refine ct_bipush K 188 (n := 12) (12) (by decide +kernel) (by decide) rfl ?_
  refine ct_newa K 190 (atype := .int) (N := 12) (t0 := 0) (a0 := (12, .inl (fun _ => Int32.ofInt 0))) (by decide +kernel) rfl rfl (fun _ _ => rfl) (ctW _ (List.mem_of_getElem? (i := 2) rfl)) (fun _ => rfl) (by decide) (by decide) (Nat.le_of_ble_eq_true rfl) rfl (Nat.le_of_ble_eq_true rfl) (Nat.le_of_ble_eq_true rfl) (fun q19 => ?_)
  refine ct_putA K hname 193 (o := 12) (idx := 86) (ci := 12) (k := 47) (fs' := [.int 0, .ref q0, .ref q1, .ref q2, .ref q3, .ref q0, .int 0, .int 0, .int 0, .int 0, .int 0, .int 0, .int 0, .int 0, .int 0, .ref (v 126), .ref (v 125), .int 0, .ref q4, .ref q5, .ref q6, .ref q7, .ref q8, .ref q9, .ref q10, .ref q11, .int 0, .int 0, .int 0, .int 0, .int 0, .int 0, .ref q12, .ref q13, .int (-1), .int 0, .ref q14, .int 0, .long 0, .ref q15, .int 0, .int 0, .int 0, .ref q16, .ref q17, .ref q18, .int 0, .ref q19, .null, .int 0, .null, .int 0]) (by decide +kernel) rfl (by decide) (by decide) rfl rfl rfl (Nat.le_of_ble_eq_true rfl) rfl (by decide +kernel) rfl ?_
  refine ct_aload K 194 0 (by decide +kernel) (lv_at hl 0 rfl) rfl ?_
  refine ct_bipush K 196 (n := 12) (12) (by decide +kernel) (by decide) rfl ?_
  refine ct_newa K 198 (atype := .boolean) (N := 12) (t0 := 2) (a0 := (12, .inl (fun _ => Int32.ofInt 0))) (by decide +kernel) rfl rfl (fun _ _ => rfl) (ctW _ (List.mem_of_getElem? (i := 4) rfl)) (fun _ => rfl) (by decide) (by decide) (Nat.le_of_ble_eq_true rfl) rfl (Nat.le_of_ble_eq_true rfl) (Nat.le_of_ble_eq_true rfl) (fun q20 => ?_)
  refine ct_putA K hname 201 (o := 12) (idx := 89) (ci := 12) (k := 48) (fs' := [.int 0, .ref q0, .ref q1, .ref q2, .ref q3, .ref q0, .int 0, .int 0, .int 0, .int 0, .int 0, .int 0, .int 0, .int 0, .int 0, .ref (v 126), .ref (v 125), .int 0, .ref q4, .ref q5, .ref q6, .ref q7, .ref q8, .ref q9, .ref q10, .ref q11, .int 0, .int 0, .int 0, .int 0, .int 0, .int 0, .ref q12, .ref q13, .int (-1), .int 0, .ref q14, .int 0, .long 0, .ref q15, .int 0, .int 0, .int 0, .ref q16, .ref q17, .ref q18, .int 0, .ref q19, .ref q20, .int 0, .null, .int 0]) (by decide +kernel) rfl (by decide) (by decide) rfl rfl rfl (Nat.le_of_ble_eq_true rfl) rfl (by decide +kernel) rfl ?_
  refine ct_aload K 202 0 (by decide +kernel) (lv_at hl 0 rfl) rfl ?_
  refine ct_sipush K 205 (n := 277) (277) (by decide +kernel) (by decide) rfl ?_
  refine ct_newa K 207 (atype := .int) (N := 277) (t0 := 0) (a0 := (277, .inl (fun _ => Int32.ofInt 0))) (by decide +kernel) rfl rfl (fun _ _ => rfl) (ctW _ (List.mem_of_getElem? (i := 2) rfl)) (fun _ => rfl) (by decide) (by decide) (Nat.le_of_ble_eq_true rfl) rfl (Nat.le_of_ble_eq_true rfl) (Nat.le_of_ble_eq_true rfl) (fun q21 => ?_)
  refine ct_putA K hname 210 (o := 12) (idx := 93) (ci := 12) (k := 50) (fs' := [.int 0, .ref q0, .ref q1, .ref q2, .ref q3, .ref q0, .int 0, .int 0, .int 0, .int 0, .int 0, .int 0, .int 0, .int 0, .int 0, .ref (v 126), .ref (v 125), .int 0, .ref q4, .ref q5, .ref q6, .ref q7, .ref q8, .ref q9, .ref q10, .ref q11, .int 0, .int 0, .int 0, .int 0, .int 0, .int 0, .ref q12, .ref q13, .int (-1), .int 0, .ref q14, .int 0, .long 0, .ref q15, .int 0, .int 0, .int 0, .ref q16, .ref q17, .ref q18, .int 0, .ref q19, .ref q20, .int 0, .ref q21, .int 0]) (by decide +kernel) rfl (by decide) (by decide) rfl rfl rfl (Nat.le_of_ble_eq_true rfl) rfl (by decide +kernel) rfl ?_
  refine kret (fun i => [q0, q1, q2, q3, q4, q5, q6, q7, q8, q9, q10, q11, q12, q13, q14, q15, q16, q17, q18, q19, q20, q21].getD i 0, fun g => ([] : List (Nat → Nat)).getD g (fun _ => 0)) 210 _ ?_ (by decide +kernel)
  simp only [List.append_assoc, List.cons_append, List.nil_append, ct_CannonPostModel_fs, ct_CannonPostModel_nw]
  try rfl
