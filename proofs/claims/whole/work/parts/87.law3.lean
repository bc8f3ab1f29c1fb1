/-! the law's cases, each -/
section LAWD
variable {p : Program} {l : Launch} {e : Env} {R : Room} {s : State} {m : MethodId} {args : Array Value} {below : List Frame} {meth : Method} {c : Code} {cells slots : Nat} {Q : State → Prop} {w : WP} {A : Nat → Prop}
theorem ca_0 (K : LX p R s m args c cells slots w A) {i : Nat} {z5 z6 : MV} {h : MH} (hn : i + 7 ≤ w.2.2.2.2.2) (hm : w.2.2.2.2.2 ≤ 2147483647) {b : Int} {Ws : Nat → WF} (iv : InvX b Ws h) (hb : b ≤ 600000) (g : ∀ h2 Ws2, InvX (b) Ws2 h2 → Wt p l e R s m args below meth c cells slots Q w A nMe 2098 (lsH i z5 z6) [] h2) : Wt p l e R s m args below meth c cells slots Q w A nMe 252 (lsH i z5 z6) [] h := by
  obtain ⟨v, h1, h2, W2, r1, r2, i2⟩ := (Pr_X iv (c_feed iv.1.1 (w.2.2.2.2.1 (i + 1)) (w.2.2.2.2.1 (i + 2)) (w.2.2.2.2.1 (i + 3)) (w.2.2.2.2.1 (i + 4)) (w.2.2.2.2.1 (i + 5)))).E
  have lc : mL 0 = 7 := by decide +kernel
  have lm : mL 178 = 6 := by decide +kernel
  refine L_case K (kc := 0) (km := 178) (ic := 19) (im := 23) (q := 1778) (cs := [1, 2, 3, 4, 5]) (h1 := h1) (h2 := h2) (v := v) hn hm (by decide) (by decide +kernel) (by decide +kernel) (by decide +kernel) (by rw [lc]; decide) (by rw [lm]; decide) (by decide +kernel) (by decide +kernel) ?_ ?_ (g h2 W2 i2)
  · rw [ent_eq9 lc rfl]; exact r1
  · rw [ent_eq9 lm rfl]; exact r2
theorem ca_1 (K : LX p R s m args c cells slots w A) {i : Nat} {z5 z6 : MV} {h : MH} (hn : i + 7 ≤ w.2.2.2.2.2) (hm : w.2.2.2.2.2 ≤ 2147483647) {b : Int} {Ws : Nat → WF} (iv : InvX b Ws h) (hb : b ≤ 600000) (g : ∀ h2 Ws2, InvX (b) Ws2 h2 → Wt p l e R s m args below meth c cells slots Q w A nMe 2098 (lsH i z5 z6) [] h2) : Wt p l e R s m args below meth c cells slots Q w A nMe 325 (lsH i z5 z6) [] h := by
  obtain ⟨v, h1, h2, W2, r1, r2, i2⟩ := (Pr_X iv (c_end iv.1.1 (w.2.2.2.2.1 (i + 1)))).E
  have lc : mL 3 = 2 := by decide +kernel
  have lm : mL 181 = 2 := by decide +kernel
  refine L_case K (kc := 3) (km := 181) (ic := 24) (im := 28) (q := 1753) (cs := [1]) (h1 := h1) (h2 := h2) (v := v) hn hm (by decide) (by decide +kernel) (by decide +kernel) (by decide +kernel) (by rw [lc]; decide) (by rw [lm]; decide) (by decide +kernel) (by decide +kernel) ?_ ?_ (g h2 W2 i2)
  · rw [ent_eq9 lc rfl]; exact r1
  · rw [ent_eq9 lm rfl]; exact r2
theorem ca_2 (K : LX p R s m args c cells slots w A) {i : Nat} {z5 z6 : MV} {h : MH} (hn : i + 7 ≤ w.2.2.2.2.2) (hm : w.2.2.2.2.2 ≤ 2147483647) {b : Int} {Ws : Nat → WF} (iv : InvX b Ws h) (hb : b ≤ 600000) (g : ∀ h2 Ws2, InvX (b) Ws2 h2 → Wt p l e R s m args below meth c cells slots Q w A nMe 2098 (lsH i z5 z6) [] h2) : Wt p l e R s m args below meth c cells slots Q w A nMe 350 (lsH i z5 z6) [] h := by
  obtain ⟨v, h1, h2, W2, r1, r2, i2⟩ := (c_fault iv (w.2.2.2.2.1 (i + 1))).E
  have lc : mL 4 = 2 := by decide +kernel
  have lm : mL 182 = 2 := by decide +kernel
  refine L_case K (kc := 4) (km := 182) (ic := 29) (im := 33) (q := 1728) (cs := [1]) (h1 := h1) (h2 := h2) (v := v) hn hm (by decide) (by decide +kernel) (by decide +kernel) (by decide +kernel) (by rw [lc]; decide) (by rw [lm]; decide) (by decide +kernel) (by decide +kernel) ?_ ?_ (g h2 W2 i2)
  · rw [ent_eq9 lc rfl]; exact r1
  · rw [ent_eq9 lm rfl]; exact r2
theorem ca_3 (K : LX p R s m args c cells slots w A) {i : Nat} {z5 z6 : MV} {h : MH} (hn : i + 7 ≤ w.2.2.2.2.2) (hm : w.2.2.2.2.2 ≤ 2147483647) {b : Int} {Ws : Nat → WF} (iv : InvX b Ws h) (hb : b ≤ 600000) (g : ∀ h2 Ws2, InvX (b) Ws2 h2 → Wt p l e R s m args below meth c cells slots Q w A nMe 2098 (lsH i z5 z6) [] h2) : Wt p l e R s m args below meth c cells slots Q w A nMe 375 (lsH i z5 z6) [] h := by
  obtain ⟨v, h1, h2, W2, r1, r2, i2⟩ := c_text iv (w.2.2.2.2.1 (i + 1))
  have lc : mL 44 = 2 := by decide +kernel
  have lm : mL 216 = 4 := by decide +kernel
  refine L_case K (kc := 44) (km := 216) (ic := 34) (im := 37) (q := 1703) (cs := [1]) (h1 := h1) (h2 := h2) (v := v) hn hm (by decide) (by decide +kernel) (by decide +kernel) (by decide +kernel) (by rw [lc]; decide) (by rw [lm]; decide) (by decide +kernel) (by decide +kernel) ?_ ?_ (g h2 W2 i2)
  · rw [ent_eq9 lc rfl]; exact r1
  · rw [ent_eq9 lm rfl]; exact r2
theorem ca_4 (K : LX p R s m args c cells slots w A) {i : Nat} {z5 z6 : MV} {h : MH} (hn : i + 7 ≤ w.2.2.2.2.2) (hm : w.2.2.2.2.2 ≤ 2147483647) {b : Int} {Ws : Nat → WF} (iv : InvX b Ws h) (hb : b ≤ 600000) (g : ∀ h2 Ws2, InvX (b) Ws2 h2 → Wt p l e R s m args below meth c cells slots Q w A nMe 2098 (lsH i z5 z6) [] h2) : Wt p l e R s m args below meth c cells slots Q w A nMe 400 (lsH i z5 z6) [] h := by
  obtain ⟨v, h1, h2, W2, r1, r2, i2⟩ := (Pr_X iv (c_rule iv.1.1 (w.2.2.2.2.1 (i + 1)))).E
  have lc : mL 60 = 2 := by decide +kernel
  have lm : mL 218 = 2 := by decide +kernel
  refine L_case K (kc := 60) (km := 218) (ic := 38) (im := 41) (q := 1678) (cs := [1]) (h1 := h1) (h2 := h2) (v := v) hn hm (by decide) (by decide +kernel) (by decide +kernel) (by decide +kernel) (by rw [lc]; decide) (by rw [lm]; decide) (by decide +kernel) (by decide +kernel) ?_ ?_ (g h2 W2 i2)
  · rw [ent_eq9 lc rfl]; exact r1
  · rw [ent_eq9 lm rfl]; exact r2
theorem ca_5 (K : LX p R s m args c cells slots w A) {i : Nat} {z5 z6 : MV} {h : MH} (hn : i + 7 ≤ w.2.2.2.2.2) (hm : w.2.2.2.2.2 ≤ 2147483647) {b : Int} {Ws : Nat → WF} (iv : InvX b Ws h) (hb : b ≤ 600000) (g : ∀ h2 Ws2, InvX (b) Ws2 h2 → Wt p l e R s m args below meth c cells slots Q w A nMe 2098 (lsH i z5 z6) [] h2) : Wt p l e R s m args below meth c cells slots Q w A nMe 425 (lsH i z5 z6) [] h := by
  obtain ⟨v, h1, h2, W2, r1, r2, i2⟩ := (Pr_X iv (c_fort iv.1.1 (w.2.2.2.2.1 (i + 1)) (w.2.2.2.2.1 (i + 2)))).E
  have lc : mL 63 = 3 := by decide +kernel
  have lm : mL 219 = 3 := by decide +kernel
  refine L_case K (kc := 63) (km := 219) (ic := 42) (im := 45) (q := 1641) (cs := [1, 2]) (h1 := h1) (h2 := h2) (v := v) hn hm (by decide) (by decide +kernel) (by decide +kernel) (by decide +kernel) (by rw [lc]; decide) (by rw [lm]; decide) (by decide +kernel) (by decide +kernel) ?_ ?_ (g h2 W2 i2)
  · rw [ent_eq9 lc rfl]; exact r1
  · rw [ent_eq9 lm rfl]; exact r2
theorem ca_7 (K : LX p R s m args c cells slots w A) {i : Nat} {z5 z6 : MV} {h : MH} (hn : i + 7 ≤ w.2.2.2.2.2) (hm : w.2.2.2.2.2 ≤ 2147483647) {b : Int} {Ws : Nat → WF} (iv : InvX b Ws h) (hb : b ≤ 600000) (g : ∀ h2 Ws2, InvX (b) Ws2 h2 → Wt p l e R s m args below meth c cells slots Q w A nMe 2098 (lsH i z5 z6) [] h2) : Wt p l e R s m args below meth c cells slots Q w A nMe 530 (lsH i z5 z6) [] h := by
  obtain ⟨v, h1, h2, W2, r1, r2, i2⟩ := (Pr_X iv (c_law iv.1.1 (w.2.2.2.2.1 (i + 1)))).E
  have lc : mL 65 = 2 := by decide +kernel
  have lm : mL 224 = 2 := by decide +kernel
  refine L_case K (kc := 65) (km := 224) (ic := 56) (im := 59) (q := 1548) (cs := [1]) (h1 := h1) (h2 := h2) (v := v) hn hm (by decide) (by decide +kernel) (by decide +kernel) (by decide +kernel) (by rw [lc]; decide) (by rw [lm]; decide) (by decide +kernel) (by decide +kernel) ?_ ?_ (g h2 W2 i2)
  · rw [ent_eq9 lc rfl]; exact r1
  · rw [ent_eq9 lm rfl]; exact r2
theorem ca_8 (K : LX p R s m args c cells slots w A) {i : Nat} {z5 z6 : MV} {h : MH} (hn : i + 7 ≤ w.2.2.2.2.2) (hm : w.2.2.2.2.2 ≤ 2147483647) {b : Int} {Ws : Nat → WF} (iv : InvX b Ws h) (hb : b ≤ 600000) (g : ∀ h2 Ws2, InvX (b) Ws2 h2 → Wt p l e R s m args below meth c cells slots Q w A nMe 2098 (lsH i z5 z6) [] h2) : Wt p l e R s m args below meth c cells slots Q w A nMe 555 (lsH i z5 z6) [] h := by
  obtain ⟨v, h1, h2, W2, r1, r2, i2⟩ := (Pr_X iv (c_damps iv.1.1 (w.2.2.2.2.1 (i + 1)))).E
  have lc : mL 66 = 2 := by decide +kernel
  have lm : mL 225 = 2 := by decide +kernel
  refine L_case K (kc := 66) (km := 225) (ic := 60) (im := 63) (q := 1523) (cs := [1]) (h1 := h1) (h2 := h2) (v := v) hn hm (by decide) (by decide +kernel) (by decide +kernel) (by decide +kernel) (by rw [lc]; decide) (by rw [lm]; decide) (by decide +kernel) (by decide +kernel) ?_ ?_ (g h2 W2 i2)
  · rw [ent_eq9 lc rfl]; exact r1
  · rw [ent_eq9 lm rfl]; exact r2
theorem ca_9 (K : LX p R s m args c cells slots w A) {i : Nat} {z5 z6 : MV} {h : MH} (hn : i + 7 ≤ w.2.2.2.2.2) (hm : w.2.2.2.2.2 ≤ 2147483647) {b : Int} {Ws : Nat → WF} (iv : InvX b Ws h) (hb : b ≤ 600000) (g : ∀ h2 Ws2, InvX (b + 1) Ws2 h2 → Wt p l e R s m args below meth c cells slots Q w A nMe 2098 (lsH i z5 z6) [] h2) : Wt p l e R s m args below meth c cells slots Q w A nMe 580 (lsH i z5 z6) [] h := by
  obtain ⟨v, h1, h2, W2, r1, r2, i2⟩ := (c_shoot iv (by omega) (w.2.2.2.2.1 (i + 1)) (w.2.2.2.2.1 (i + 2)) (w.2.2.2.2.1 (i + 3)) (w.2.2.2.2.1 (i + 4))).E
  have lc : mL 70 = 6 := by decide +kernel
  have lm : mL 226 = 6 := by decide +kernel
  refine L_case K (kc := 70) (km := 226) (ic := 64) (im := 68) (q := 1462) (cs := [1, 2, 3, 4]) (h1 := h1) (h2 := h2) (v := v) hn hm (by decide) (by decide +kernel) (by decide +kernel) (by decide +kernel) (by rw [lc]; decide) (by rw [lm]; decide) (by decide +kernel) (by decide +kernel) ?_ ?_ (g h2 W2 i2)
  · rw [ent_eq9 lc rfl]; exact r1
  · rw [ent_eq9 lm rfl]; exact r2
theorem ca_10 (K : LX p R s m args c cells slots w A) {i : Nat} {z5 z6 : MV} {h : MH} (hn : i + 7 ≤ w.2.2.2.2.2) (hm : w.2.2.2.2.2 ≤ 2147483647) {b : Int} {Ws : Nat → WF} (iv : InvX b Ws h) (hb : b ≤ 600000) (g : ∀ h2 Ws2, InvX (b) Ws2 h2 → Wt p l e R s m args below meth c cells slots Q w A nMe 2098 (lsH i z5 z6) [] h2) : Wt p l e R s m args below meth c cells slots Q w A nMe 641 (lsH i z5 z6) [] h := by
  obtain ⟨v, h1, h2, W2, r1, r2, i2⟩ := (Pr_X iv (c_hear iv.1.1 (w.2.2.2.2.1 (i + 1)) (w.2.2.2.2.1 (i + 2)))).E
  have lc : mL 90 = 3 := by decide +kernel
  have lm : mL 237 = 3 := by decide +kernel
  refine L_case K (kc := 90) (km := 237) (ic := 69) (im := 73) (q := 1425) (cs := [1, 2]) (h1 := h1) (h2 := h2) (v := v) hn hm (by decide) (by decide +kernel) (by decide +kernel) (by decide +kernel) (by rw [lc]; decide) (by rw [lm]; decide) (by decide +kernel) (by decide +kernel) ?_ ?_ (g h2 W2 i2)
  · rw [ent_eq9 lc rfl]; exact r1
  · rw [ent_eq9 lm rfl]; exact r2
theorem ca_11 (K : LX p R s m args c cells slots w A) {i : Nat} {z5 z6 : MV} {h : MH} (hn : i + 7 ≤ w.2.2.2.2.2) (hm : w.2.2.2.2.2 ≤ 2147483647) {b : Int} {Ws : Nat → WF} (iv : InvX b Ws h) (hb : b ≤ 600000) (g : ∀ h2 Ws2, InvX (b) Ws2 h2 → Wt p l e R s m args below meth c cells slots Q w A nMe 2098 (lsH i z5 z6) [] h2) : Wt p l e R s m args below meth c cells slots Q w A nMe 678 (lsH i z5 z6) [] h := by
  obtain ⟨v, h1, h2, W2, r1, r2, i2⟩ := (Pr_X iv (c_stack iv.1.1 (w.2.2.2.2.1 (i + 1)) (w.2.2.2.2.1 (i + 2)))).E
  have lc : mL 93 = 3 := by decide +kernel
  have lm : mL 239 = 3 := by decide +kernel
  refine L_case K (kc := 93) (km := 239) (ic := 74) (im := 77) (q := 1388) (cs := [1, 2]) (h1 := h1) (h2 := h2) (v := v) hn hm (by decide) (by decide +kernel) (by decide +kernel) (by decide +kernel) (by rw [lc]; decide) (by rw [lm]; decide) (by decide +kernel) (by decide +kernel) ?_ ?_ (g h2 W2 i2)
  · rw [ent_eq9 lc rfl]; exact r1
  · rw [ent_eq9 lm rfl]; exact r2
theorem ca_12 (K : LX p R s m args c cells slots w A) {i : Nat} {z5 z6 : MV} {h : MH} (hn : i + 7 ≤ w.2.2.2.2.2) (hm : w.2.2.2.2.2 ≤ 2147483647) {b : Int} {Ws : Nat → WF} (iv : InvX b Ws h) (hb : b ≤ 600000) (g : ∀ h2 Ws2, InvX (b) Ws2 h2 → Wt p l e R s m args below meth c cells slots Q w A nMe 2098 (lsH i z5 z6) [] h2) : Wt p l e R s m args below meth c cells slots Q w A nMe 715 (lsH i z5 z6) [] h := by
  obtain ⟨v, h1, h2, W2, r1, r2, i2⟩ := (Pr_X iv (c_grind iv.1.1 (w.2.2.2.2.1 (i + 1)))).E
  have lc : mL 94 = 2 := by decide +kernel
  have lm : mL 240 = 2 := by decide +kernel
  refine L_case K (kc := 94) (km := 240) (ic := 78) (im := 81) (q := 1363) (cs := [1]) (h1 := h1) (h2 := h2) (v := v) hn hm (by decide) (by decide +kernel) (by decide +kernel) (by decide +kernel) (by rw [lc]; decide) (by rw [lm]; decide) (by decide +kernel) (by decide +kernel) ?_ ?_ (g h2 W2 i2)
  · rw [ent_eq9 lc rfl]; exact r1
  · rw [ent_eq9 lm rfl]; exact r2
theorem ca_13 (K : LX p R s m args c cells slots w A) {i : Nat} {z5 z6 : MV} {h : MH} (hn : i + 7 ≤ w.2.2.2.2.2) (hm : w.2.2.2.2.2 ≤ 2147483647) {b : Int} {Ws : Nat → WF} (iv : InvX b Ws h) (hb : b ≤ 600000) (g : ∀ h2 Ws2, InvX (b) Ws2 h2 → Wt p l e R s m args below meth c cells slots Q w A nMe 2098 (lsH i z5 z6) [] h2) : Wt p l e R s m args below meth c cells slots Q w A nMe 740 (lsH i z5 z6) [] h := by
  obtain ⟨v, h1, h2, W2, r1, r2, i2⟩ := (Pr_X iv (c_wind iv.1.1 (w.2.2.2.2.1 (i + 1)) (w.2.2.2.2.1 (i + 2)))).E
  have lc : mL 95 = 3 := by decide +kernel
  have lm : mL 241 = 3 := by decide +kernel
  refine L_case K (kc := 95) (km := 241) (ic := 82) (im := 85) (q := 1326) (cs := [1, 2]) (h1 := h1) (h2 := h2) (v := v) hn hm (by decide) (by decide +kernel) (by decide +kernel) (by decide +kernel) (by rw [lc]; decide) (by rw [lm]; decide) (by decide +kernel) (by decide +kernel) ?_ ?_ (g h2 W2 i2)
  · rw [ent_eq9 lc rfl]; exact r1
  · rw [ent_eq9 lm rfl]; exact r2
theorem ca_14 (K : LX p R s m args c cells slots w A) {i : Nat} {z5 z6 : MV} {h : MH} (hn : i + 7 ≤ w.2.2.2.2.2) (hm : w.2.2.2.2.2 ≤ 2147483647) {b : Int} {Ws : Nat → WF} (iv : InvX b Ws h) (hb : b ≤ 600000) (g : ∀ h2 Ws2, InvX (b) Ws2 h2 → Wt p l e R s m args below meth c cells slots Q w A nMe 2098 (lsH i z5 z6) [] h2) : Wt p l e R s m args below meth c cells slots Q w A nMe 777 (lsH i z5 z6) [] h := by
  obtain ⟨v, h1, h2, W2, r1, r2, i2⟩ := (Pr_X iv (c_damp iv.1.1 (w.2.2.2.2.1 (i + 1)))).E
  have lc : mL 97 = 2 := by decide +kernel
  have lm : mL 244 = 2 := by decide +kernel
  refine L_case K (kc := 97) (km := 244) (ic := 86) (im := 89) (q := 1301) (cs := [1]) (h1 := h1) (h2 := h2) (v := v) hn hm (by decide) (by decide +kernel) (by decide +kernel) (by decide +kernel) (by rw [lc]; decide) (by rw [lm]; decide) (by decide +kernel) (by decide +kernel) ?_ ?_ (g h2 W2 i2)
  · rw [ent_eq9 lc rfl]; exact r1
  · rw [ent_eq9 lm rfl]; exact r2
theorem ca_15 (K : LX p R s m args c cells slots w A) {i : Nat} {z5 z6 : MV} {h : MH} (hn : i + 7 ≤ w.2.2.2.2.2) (hm : w.2.2.2.2.2 ≤ 2147483647) {b : Int} {Ws : Nat → WF} (iv : InvX b Ws h) (hb : b ≤ 600000) (g : ∀ h2 Ws2, InvX (b) Ws2 h2 → Wt p l e R s m args below meth c cells slots Q w A nMe 2098 (lsH i z5 z6) [] h2) : Wt p l e R s m args below meth c cells slots Q w A nMe 802 (lsH i z5 z6) [] h := by
  obtain ⟨v, h1, h2, W2, r1, r2, i2⟩ := (Pr_X iv (c_hours iv.1.1 (by omega) (w.2.2.2.2.1 (i + 1)))).E
  have lc : mL 98 = 3 := by decide +kernel
  have lm : mL 245 = 3 := by decide +kernel
  refine L_case K (kc := 98) (km := 245) (ic := 90) (im := 93) (q := 1276) (cs := [1]) (h1 := h1) (h2 := h2) (v := v) hn hm (by decide) (by decide +kernel) (by decide +kernel) (by decide +kernel) (by rw [lc]; decide) (by rw [lm]; decide) (by decide +kernel) (by decide +kernel) ?_ ?_ (g h2 W2 i2)
  · rw [ent_eq9 lc rfl]; exact r1
  · rw [ent_eq9 lm rfl]; exact r2
theorem ca_17 (K : LX p R s m args c cells slots w A) {i : Nat} {z5 z6 : MV} {h : MH} (hn : i + 7 ≤ w.2.2.2.2.2) (hm : w.2.2.2.2.2 ≤ 2147483647) {b : Int} {Ws : Nat → WF} (iv : InvX b Ws h) (hb : b ≤ 600000) (g : ∀ h2 Ws2, InvX (b) Ws2 h2 → Wt p l e R s m args below meth c cells slots Q w A nMe 2098 (lsH i z5 z6) [] h2) : Wt p l e R s m args below meth c cells slots Q w A nMe 896 (lsH i z5 z6) [] h := by
  obtain ⟨v, h1, h2, W2, r1, r2, i2⟩ := (Pr_X iv (c_undo iv.1.1 )).E
  have lc : mL 106 = 1 := by decide +kernel
  have lm : mL 251 = 2 := by decide +kernel
  refine L_case K (kc := 106) (km := 251) (ic := 101) (im := 104) (q := 1194) (cs := []) (h1 := h1) (h2 := h2) (v := v) hn hm (by decide) (by decide +kernel) (by decide +kernel) (by decide +kernel) (by rw [lc]; decide) (by rw [lm]; decide) (by decide +kernel) (by decide +kernel) ?_ ?_ (g h2 W2 i2)
  · rw [ent_eq9 lc rfl]; exact r1
  · rw [ent_eq9 lm rfl]; exact r2
theorem ca_18 (K : LX p R s m args c cells slots w A) {i : Nat} {z5 z6 : MV} {h : MH} (hn : i + 7 ≤ w.2.2.2.2.2) (hm : w.2.2.2.2.2 ≤ 2147483647) {b : Int} {Ws : Nat → WF} (iv : InvX b Ws h) (hb : b ≤ 600000) (g : ∀ h2 Ws2, InvX (b) Ws2 h2 → Wt p l e R s m args below meth c cells slots Q w A nMe 2098 (lsH i z5 z6) [] h2) : Wt p l e R s m args below meth c cells slots Q w A nMe 909 (lsH i z5 z6) [] h := by
  obtain ⟨v, h1, h2, W2, r1, r2, i2⟩ := (Pr_X iv (c_log iv.1.1 (by omega) (w.2.2.2.2.1 (i + 1)) (w.2.2.2.2.1 (i + 2)))).E
  have lc : mL 108 = 3 := by decide +kernel
  have lm : mL 252 = 3 := by decide +kernel
  refine L_case K (kc := 108) (km := 252) (ic := 105) (im := 108) (q := 1157) (cs := [1, 2]) (h1 := h1) (h2 := h2) (v := v) hn hm (by decide) (by decide +kernel) (by decide +kernel) (by decide +kernel) (by rw [lc]; decide) (by rw [lm]; decide) (by decide +kernel) (by decide +kernel) ?_ ?_ (g h2 W2 i2)
  · rw [ent_eq9 lc rfl]; exact r1
  · rw [ent_eq9 lm rfl]; exact r2
theorem ca_19 (K : LX p R s m args c cells slots w A) {i : Nat} {z5 z6 : MV} {h : MH} (hn : i + 7 ≤ w.2.2.2.2.2) (hm : w.2.2.2.2.2 ≤ 2147483647) {b : Int} {Ws : Nat → WF} (iv : InvX b Ws h) (hb : b ≤ 600000) (g : ∀ h2 Ws2, InvX (b) Ws2 h2 → Wt p l e R s m args below meth c cells slots Q w A nMe 2098 (lsH i z5 z6) [] h2) : Wt p l e R s m args below meth c cells slots Q w A nMe 946 (lsH i z5 z6) [] h := by
  obtain ⟨v, h1, h2, W2, r1, r2, i2⟩ := (Pr_X iv (c_step iv.1.1 (w.2.2.2.2.1 (i + 1)) (w.2.2.2.2.1 (i + 2)) (w.2.2.2.2.1 (i + 3)))).E
  have lc : mL 113 = 4 := by decide +kernel
  have lm : mL 253 = 4 := by decide +kernel
  refine L_case K (kc := 113) (km := 253) (ic := 109) (im := 113) (q := 1108) (cs := [1, 2, 3]) (h1 := h1) (h2 := h2) (v := v) hn hm (by decide) (by decide +kernel) (by decide +kernel) (by decide +kernel) (by rw [lc]; decide) (by rw [lm]; decide) (by decide +kernel) (by decide +kernel) ?_ ?_ (g h2 W2 i2)
  · rw [ent_eq9 lc rfl]; exact r1
  · rw [ent_eq9 lm rfl]; exact r2
theorem ca_20 (K : LX p R s m args c cells slots w A) {i : Nat} {z5 z6 : MV} {h : MH} (hn : i + 7 ≤ w.2.2.2.2.2) (hm : w.2.2.2.2.2 ≤ 2147483647) {b : Int} {Ws : Nat → WF} (iv : InvX b Ws h) (hb : b ≤ 600000) (g : ∀ h2 Ws2, InvX (b) Ws2 h2 → Wt p l e R s m args below meth c cells slots Q w A nMe 2098 (lsH i z5 z6) [] h2) : Wt p l e R s m args below meth c cells slots Q w A nMe 995 (lsH i z5 z6) [] h := by
  obtain ⟨v, h1, h2, W2, r1, r2, i2⟩ := (c_run iv (by omega) (w.2.2.2.2.1 (i + 1)) (w.2.2.2.2.1 (i + 2))).E
  have lc : mL 116 = 4 := by decide +kernel
  have lm : mL 255 = 6 := by decide +kernel
  refine L_case K (kc := 116) (km := 255) (ic := 114) (im := 117) (q := 1071) (cs := [1, 2]) (h1 := h1) (h2 := h2) (v := v) hn hm (by decide) (by decide +kernel) (by decide +kernel) (by decide +kernel) (by rw [lc]; decide) (by rw [lm]; decide) (by decide +kernel) (by decide +kernel) ?_ ?_ (g h2 W2 i2)
  · rw [ent_eq9 lc rfl]; exact r1
  · rw [ent_eq9 lm rfl]; exact r2
theorem ca_21 (K : LX p R s m args c cells slots w A) {i : Nat} {z5 z6 : MV} {h : MH} (hn : i + 7 ≤ w.2.2.2.2.2) (hm : w.2.2.2.2.2 ≤ 2147483647) {b : Int} {Ws : Nat → WF} (iv : InvX b Ws h) (hb : b ≤ 600000) (g : ∀ h2 Ws2, InvX (b + 144) Ws2 h2 → Wt p l e R s m args below meth c cells slots Q w A nMe 2098 (lsH i z5 z6) [] h2) : Wt p l e R s m args below meth c cells slots Q w A nMe 1032 (lsH i z5 z6) [] h := by
  obtain ⟨v, h1, h2, W2, r1, r2, i2⟩ := (c_perform iv (by omega) (w.2.2.2.2.1 (i + 1))).E
  have lc : mL 120 = 2 := by decide +kernel
  have lm : mL 260 = 5 := by decide +kernel
  refine L_case K (kc := 120) (km := 260) (ic := 118) (im := 121) (q := 1046) (cs := [1]) (h1 := h1) (h2 := h2) (v := v) hn hm (by decide) (by decide +kernel) (by decide +kernel) (by decide +kernel) (by rw [lc]; decide) (by rw [lm]; decide) (by decide +kernel) (by decide +kernel) ?_ ?_ (g h2 W2 i2)
  · rw [ent_eq9 lc rfl]; exact r1
  · rw [ent_eq9 lm rfl]; exact r2
theorem ca_22 (K : LX p R s m args c cells slots w A) {i : Nat} {z5 z6 : MV} {h : MH} (hn : i + 7 ≤ w.2.2.2.2.2) (hm : w.2.2.2.2.2 ≤ 2147483647) {b : Int} {Ws : Nat → WF} (iv : InvX b Ws h) (hb : b ≤ 600000) (g : ∀ h2 Ws2, InvX (b) Ws2 h2 → Wt p l e R s m args below meth c cells slots Q w A nMe 2098 (lsH i z5 z6) [] h2) : Wt p l e R s m args below meth c cells slots Q w A nMe 1057 (lsH i z5 z6) [] h := by
  obtain ⟨v, h1, h2, W2, r1, r2, i2⟩ := (c_lands iv (w.2.2.2.2.1 (i + 1)) (w.2.2.2.2.1 (i + 2)) (w.2.2.2.2.1 (i + 3)) (w.2.2.2.2.1 (i + 4)) (w.2.2.2.2.1 (i + 5))).E
  have lc : mL 121 = 7 := by decide +kernel
  have lm : mL 261 = 7 := by decide +kernel
  refine L_case K (kc := 121) (km := 261) (ic := 122) (im := 125) (q := 973) (cs := [1, 2, 3, 4, 5]) (h1 := h1) (h2 := h2) (v := v) hn hm (by decide) (by decide +kernel) (by decide +kernel) (by decide +kernel) (by rw [lc]; decide) (by rw [lm]; decide) (by decide +kernel) (by decide +kernel) ?_ ?_ (g h2 W2 i2)
  · rw [ent_eq9 lc rfl]; exact r1
  · rw [ent_eq9 lm rfl]; exact r2
theorem ca_23 (K : LX p R s m args c cells slots w A) {i : Nat} {z5 z6 : MV} {h : MH} (hn : i + 7 ≤ w.2.2.2.2.2) (hm : w.2.2.2.2.2 ≤ 2147483647) {b : Int} {Ws : Nat → WF} (iv : InvX b Ws h) (hb : b ≤ 600000) (g : ∀ h2 Ws2, InvX (b) Ws2 h2 → Wt p l e R s m args below meth c cells slots Q w A nMe 2098 (lsH i z5 z6) [] h2) : Wt p l e R s m args below meth c cells slots Q w A nMe 1130 (lsH i z5 z6) [] h := by
  obtain ⟨v, h1, h2, W2, r1, r2, i2⟩ := (c_aim iv (w.2.2.2.2.1 (i + 1)) (w.2.2.2.2.1 (i + 2)) (w.2.2.2.2.1 (i + 3))).E
  have lc : mL 123 = 4 := by decide +kernel
  have lm : mL 263 = 4 := by decide +kernel
  refine L_case K (kc := 123) (km := 263) (ic := 126) (im := 129) (q := 924) (cs := [1, 2, 3]) (h1 := h1) (h2 := h2) (v := v) hn hm (by decide) (by decide +kernel) (by decide +kernel) (by decide +kernel) (by rw [lc]; decide) (by rw [lm]; decide) (by decide +kernel) (by decide +kernel) ?_ ?_ (g h2 W2 i2)
  · rw [ent_eq9 lc rfl]; exact r1
  · rw [ent_eq9 lm rfl]; exact r2
theorem ca_24 (K : LX p R s m args c cells slots w A) {i : Nat} {z5 z6 : MV} {h : MH} (hn : i + 7 ≤ w.2.2.2.2.2) (hm : w.2.2.2.2.2 ≤ 2147483647) {b : Int} {Ws : Nat → WF} (iv : InvX b Ws h) (hb : b ≤ 600000) (g : ∀ h2 Ws2, InvX (b) Ws2 h2 → Wt p l e R s m args below meth c cells slots Q w A nMe 2098 (lsH i z5 z6) [] h2) : Wt p l e R s m args below meth c cells slots Q w A nMe 1179 (lsH i z5 z6) [] h := by
  obtain ⟨v, h1, h2, W2, r1, r2, i2⟩ := (c_route iv (w.2.2.2.2.1 (i + 1)) (w.2.2.2.2.1 (i + 2)) (w.2.2.2.2.1 (i + 3)) (w.2.2.2.2.1 (i + 4))).E
  have lc : mL 127 = 5 := by decide +kernel
  have lm : mL 266 = 5 := by decide +kernel
  refine L_case K (kc := 127) (km := 266) (ic := 130) (im := 133) (q := 863) (cs := [1, 2, 3, 4]) (h1 := h1) (h2 := h2) (v := v) hn hm (by decide) (by decide +kernel) (by decide +kernel) (by decide +kernel) (by rw [lc]; decide) (by rw [lm]; decide) (by decide +kernel) (by decide +kernel) ?_ ?_ (g h2 W2 i2)
  · rw [ent_eq9 lc rfl]; exact r1
  · rw [ent_eq9 lm rfl]; exact r2
theorem ca_25 (K : LX p R s m args c cells slots w A) {i : Nat} {z5 z6 : MV} {h : MH} (hn : i + 7 ≤ w.2.2.2.2.2) (hm : w.2.2.2.2.2 ≤ 2147483647) {b : Int} {Ws : Nat → WF} (iv : InvX b Ws h) (hb : b ≤ 600000) (g : ∀ h2 Ws2, InvX (b) Ws2 h2 → Wt p l e R s m args below meth c cells slots Q w A nMe 2098 (lsH i z5 z6) [] h2) : Wt p l e R s m args below meth c cells slots Q w A nMe 1240 (lsH i z5 z6) [] h := by
  obtain ⟨v, h1, h2, W2, r1, r2, i2⟩ := (c_relay iv (w.2.2.2.2.1 (i + 1)) (w.2.2.2.2.1 (i + 2)) (w.2.2.2.2.1 (i + 3))).E
  have lc : mL 130 = 5 := by decide +kernel
  have lm : mL 272 = 8 := by decide +kernel
  refine L_case K (kc := 130) (km := 272) (ic := 134) (im := 137) (q := 814) (cs := [1, 2, 3]) (h1 := h1) (h2 := h2) (v := v) hn hm (by decide) (by decide +kernel) (by decide +kernel) (by decide +kernel) (by rw [lc]; decide) (by rw [lm]; decide) (by decide +kernel) (by decide +kernel) ?_ ?_ (g h2 W2 i2)
  · rw [ent_eq9 lc rfl]; exact r1
  · rw [ent_eq9 lm rfl]; exact r2
theorem ca_26 (K : LX p R s m args c cells slots w A) {i : Nat} {z5 z6 : MV} {h : MH} (hn : i + 7 ≤ w.2.2.2.2.2) (hm : w.2.2.2.2.2 ≤ 2147483647) {b : Int} {Ws : Nat → WF} (iv : InvX b Ws h) (hb : b ≤ 600000) (g : ∀ h2 Ws2, InvX (b) Ws2 h2 → Wt p l e R s m args below meth c cells slots Q w A nMe 2098 (lsH i z5 z6) [] h2) : Wt p l e R s m args below meth c cells slots Q w A nMe 1289 (lsH i z5 z6) [] h := by
  obtain ⟨v, h1, h2, W2, r1, r2, i2⟩ := (c_sure iv (w.2.2.2.2.1 (i + 1)) (w.2.2.2.2.1 (i + 2)) (w.2.2.2.2.1 (i + 3))).E
  have lc : mL 135 = 4 := by decide +kernel
  have lm : mL 269 = 4 := by decide +kernel
  refine L_case K (kc := 135) (km := 269) (ic := 138) (im := 141) (q := 765) (cs := [1, 2, 3]) (h1 := h1) (h2 := h2) (v := v) hn hm (by decide) (by decide +kernel) (by decide +kernel) (by decide +kernel) (by rw [lc]; decide) (by rw [lm]; decide) (by decide +kernel) (by decide +kernel) ?_ ?_ (g h2 W2 i2)
  · rw [ent_eq9 lc rfl]; exact r1
  · rw [ent_eq9 lm rfl]; exact r2
theorem ca_27 (K : LX p R s m args c cells slots w A) {i : Nat} {z5 z6 : MV} {h : MH} (hn : i + 7 ≤ w.2.2.2.2.2) (hm : w.2.2.2.2.2 ≤ 2147483647) {b : Int} {Ws : Nat → WF} (iv : InvX b Ws h) (hb : b ≤ 600000) (g : ∀ h2 Ws2, InvX (b) Ws2 h2 → Wt p l e R s m args below meth c cells slots Q w A nMe 2098 (lsH i z5 z6) [] h2) : Wt p l e R s m args below meth c cells slots Q w A nMe 1338 (lsH i z5 z6) [] h := by
  obtain ⟨v, h1, h2, W2, r1, r2, i2⟩ := (c_surest iv (w.2.2.2.2.1 (i + 1)) (w.2.2.2.2.1 (i + 2))).E
  have lc : mL 137 = 7 := by decide +kernel
  have lm : mL 271 = 7 := by decide +kernel
  refine L_case K (kc := 137) (km := 271) (ic := 142) (im := 145) (q := 728) (cs := [1, 2]) (h1 := h1) (h2 := h2) (v := v) hn hm (by decide) (by decide +kernel) (by decide +kernel) (by decide +kernel) (by rw [lc]; decide) (by rw [lm]; decide) (by decide +kernel) (by decide +kernel) ?_ ?_ (g h2 W2 i2)
  · rw [ent_eq9 lc rfl]; exact r1
  · rw [ent_eq9 lm rfl]; exact r2
theorem ca_28 (K : LX p R s m args c cells slots w A) {i : Nat} {z5 z6 : MV} {h : MH} (hn : i + 7 ≤ w.2.2.2.2.2) (hm : w.2.2.2.2.2 ≤ 2147483647) {b : Int} {Ws : Nat → WF} (iv : InvX b Ws h) (hb : b ≤ 600000) (g : ∀ h2 Ws2, InvX (b) Ws2 h2 → Wt p l e R s m args below meth c cells slots Q w A nMe 2098 (lsH i z5 z6) [] h2) : Wt p l e R s m args below meth c cells slots Q w A nMe 1375 (lsH i z5 z6) [] h := by
  obtain ⟨v, h1, h2, W2, r1, r2, i2⟩ := (Pr_X iv (c_seen iv.1.1 (w.2.2.2.2.1 (i + 1)) (w.2.2.2.2.1 (i + 2)) (w.2.2.2.2.1 (i + 3)) (w.2.2.2.2.1 (i + 4)) (w.2.2.2.2.1 (i + 5)))).E
  have lc : mL 146 = 6 := by decide +kernel
  have lm : mL 277 = 7 := by decide +kernel
  refine L_case K (kc := 146) (km := 277) (ic := 146) (im := 149) (q := 655) (cs := [1, 2, 3, 4, 5]) (h1 := h1) (h2 := h2) (v := v) hn hm (by decide) (by decide +kernel) (by decide +kernel) (by decide +kernel) (by rw [lc]; decide) (by rw [lm]; decide) (by decide +kernel) (by decide +kernel) ?_ ?_ (g h2 W2 i2)
  · rw [ent_eq9 lc rfl]; exact r1
  · rw [ent_eq9 lm rfl]; exact r2
theorem ca_29 (K : LX p R s m args c cells slots w A) {i : Nat} {z5 z6 : MV} {h : MH} (hn : i + 7 ≤ w.2.2.2.2.2) (hm : w.2.2.2.2.2 ≤ 2147483647) {b : Int} {Ws : Nat → WF} (iv : InvX b Ws h) (hb : b ≤ 600000) (g : ∀ h2 Ws2, InvX (b) Ws2 h2 → Wt p l e R s m args below meth c cells slots Q w A nMe 2098 (lsH i z5 z6) [] h2) : Wt p l e R s m args below meth c cells slots Q w A nMe 1448 (lsH i z5 z6) [] h := by
  obtain ⟨v, h1, h2, W2, r1, r2, i2⟩ := (c_winds iv (w.2.2.2.2.1 (i + 1))).E
  have lc : mL 149 = 2 := by decide +kernel
  have lm : mL 278 = 4 := by decide +kernel
  refine L_case K (kc := 149) (km := 278) (ic := 150) (im := 153) (q := 630) (cs := [1]) (h1 := h1) (h2 := h2) (v := v) hn hm (by decide) (by decide +kernel) (by decide +kernel) (by decide +kernel) (by rw [lc]; decide) (by rw [lm]; decide) (by decide +kernel) (by decide +kernel) ?_ ?_ (g h2 W2 i2)
  · rw [ent_eq9 lc rfl]; exact r1
  · rw [ent_eq9 lm rfl]; exact r2
theorem ca_30 (K : LX p R s m args c cells slots w A) {i : Nat} {z5 z6 : MV} {h : MH} (hn : i + 7 ≤ w.2.2.2.2.2) (hm : w.2.2.2.2.2 ≤ 2147483647) {b : Int} {Ws : Nat → WF} (iv : InvX b Ws h) (hb : b ≤ 600000) (g : ∀ h2 Ws2, InvX (b) Ws2 h2 → Wt p l e R s m args below meth c cells slots Q w A nMe 2098 (lsH i z5 z6) [] h2) : Wt p l e R s m args below meth c cells slots Q w A nMe 1473 (lsH i z5 z6) [] h := by
  obtain ⟨v, h1, h2, W2, r1, r2, i2⟩ := (c_ask iv (w.2.2.2.2.1 (i + 1)) (w.2.2.2.2.1 (i + 2))).E
  have lc : mL 153 = 3 := by decide +kernel
  have lm : mL 280 = 11 := by decide +kernel
  refine L_case K (kc := 153) (km := 280) (ic := 154) (im := 157) (q := 593) (cs := [1, 2]) (h1 := h1) (h2 := h2) (v := v) hn hm (by decide) (by decide +kernel) (by decide +kernel) (by decide +kernel) (by rw [lc]; decide) (by rw [lm]; decide) (by decide +kernel) (by decide +kernel) ?_ ?_ (g h2 W2 i2)
  · rw [ent_eq9 lc rfl]; exact r1
  · rw [ent_eq9 lm rfl]; exact r2
theorem ca_31 (K : LX p R s m args c cells slots w A) {i : Nat} {z5 z6 : MV} {h : MH} (hn : i + 7 ≤ w.2.2.2.2.2) (hm : w.2.2.2.2.2 ≤ 2147483647) {b : Int} {Ws : Nat → WF} (iv : InvX b Ws h) (hb : b ≤ 600000) (g : ∀ h2 Ws2, InvX (b) Ws2 h2 → Wt p l e R s m args below meth c cells slots Q w A nMe 2098 (lsH i z5 z6) [] h2) : Wt p l e R s m args below meth c cells slots Q w A nMe 1510 (lsH i z5 z6) [] h := by
  obtain ⟨v, h1, h2, W2, r1, r2, i2⟩ := (c_cuts iv ).E
  have lc : mL 138 = 4 := by decide +kernel
  have lm : mL 284 = 4 := by decide +kernel
  refine L_case K (kc := 138) (km := 284) (ic := 158) (im := 161) (q := 580) (cs := []) (h1 := h1) (h2 := h2) (v := v) hn hm (by decide) (by decide +kernel) (by decide +kernel) (by decide +kernel) (by rw [lc]; decide) (by rw [lm]; decide) (by decide +kernel) (by decide +kernel) ?_ ?_ (g h2 W2 i2)
  · rw [ent_eq9 lc rfl]; exact r1
  · rw [ent_eq9 lm rfl]; exact r2
theorem ca_32 (K : LX p R s m args c cells slots w A) {i : Nat} {z5 z6 : MV} {h : MH} (hn : i + 7 ≤ w.2.2.2.2.2) (hm : w.2.2.2.2.2 ≤ 2147483647) {b : Int} {Ws : Nat → WF} (iv : InvX b Ws h) (hb : b ≤ 600000) (g : ∀ h2 Ws2, InvX (b) Ws2 h2 → Wt p l e R s m args below meth c cells slots Q w A nMe 2098 (lsH i z5 z6) [] h2) : Wt p l e R s m args below meth c cells slots Q w A nMe 1523 (lsH i z5 z6) [] h := by
  obtain ⟨v, h1, h2, W2, r1, r2, i2⟩ := (c_net iv (w.2.2.2.2.1 (i + 1))).E
  have lc : mL 141 = 2 := by decide +kernel
  have lm : mL 281 = 2 := by decide +kernel
  refine L_case K (kc := 141) (km := 281) (ic := 162) (im := 165) (q := 555) (cs := [1]) (h1 := h1) (h2 := h2) (v := v) hn hm (by decide) (by decide +kernel) (by decide +kernel) (by decide +kernel) (by rw [lc]; decide) (by rw [lm]; decide) (by decide +kernel) (by decide +kernel) ?_ ?_ (g h2 W2 i2)
  · rw [ent_eq9 lc rfl]; exact r1
  · rw [ent_eq9 lm rfl]; exact r2
theorem ca_33 (K : LX p R s m args c cells slots w A) {i : Nat} {z5 z6 : MV} {h : MH} (hn : i + 7 ≤ w.2.2.2.2.2) (hm : w.2.2.2.2.2 ≤ 2147483647) {b : Int} {Ws : Nat → WF} (iv : InvX b Ws h) (hb : b ≤ 600000) (g : ∀ h2 Ws2, InvX (b) Ws2 h2 → Wt p l e R s m args below meth c cells slots Q w A nMe 2098 (lsH i z5 z6) [] h2) : Wt p l e R s m args below meth c cells slots Q w A nMe 1548 (lsH i z5 z6) [] h := by
  obtain ⟨v, h1, h2, W2, r1, r2, i2⟩ := (Pr_X iv (c_game iv.1.1 (w.2.2.2.2.1 (i + 1)) (w.2.2.2.2.1 (i + 2)) (w.2.2.2.2.1 (i + 3)) (w.2.2.2.2.1 (i + 4)) (w.2.2.2.2.1 (i + 5)) (w.2.2.2.2.1 (i + 6)))).E
  have lc : mL 164 = 7 := by decide +kernel
  have lm : mL 285 = 7 := by decide +kernel
  refine L_case K (kc := 164) (km := 285) (ic := 166) (im := 170) (q := 468) (cs := [1, 2, 3, 4, 5, 6]) (h1 := h1) (h2 := h2) (v := v) hn hm (by decide) (by decide +kernel) (by decide +kernel) (by decide +kernel) (by rw [lc]; decide) (by rw [lm]; decide) (by decide +kernel) (by decide +kernel) ?_ ?_ (g h2 W2 i2)
  · rw [ent_eq9 lc rfl]; exact r1
  · rw [ent_eq9 lm rfl]; exact r2
theorem ca_34 (K : LX p R s m args c cells slots w A) {i : Nat} {z5 z6 : MV} {h : MH} (hn : i + 7 ≤ w.2.2.2.2.2) (hm : w.2.2.2.2.2 ≤ 2147483647) {b : Int} {Ws : Nat → WF} (iv : InvX b Ws h) (hb : b ≤ 600000) (g : ∀ h2 Ws2, InvX (b) Ws2 h2 → Wt p l e R s m args below meth c cells slots Q w A nMe 2098 (lsH i z5 z6) [] h2) : Wt p l e R s m args below meth c cells slots Q w A nMe 1635 (lsH i z5 z6) [] h := by
  obtain ⟨v, h1, h2, W2, r1, r2, i2⟩ := (Pr_X iv (c_rests iv.1.1 (w.2.2.2.2.1 (i + 1)) (w.2.2.2.2.1 (i + 2)) (w.2.2.2.2.1 (i + 3)) (w.2.2.2.2.1 (i + 4)))).E
  have lc : mL 167 = 9 := by decide +kernel
  have lm : mL 288 = 9 := by decide +kernel
  refine L_case K (kc := 167) (km := 288) (ic := 171) (im := 174) (q := 407) (cs := [1, 2, 3, 4]) (h1 := h1) (h2 := h2) (v := v) hn hm (by decide) (by decide +kernel) (by decide +kernel) (by decide +kernel) (by rw [lc]; decide) (by rw [lm]; decide) (by decide +kernel) (by decide +kernel) ?_ ?_ (g h2 W2 i2)
  · rw [ent_eq9 lc rfl]; exact r1
  · rw [ent_eq9 lm rfl]; exact r2
theorem ca_36 (K : LX p R s m args c cells slots w A) {i : Nat} {z5 z6 : MV} {h : MH} (hn : i + 7 ≤ w.2.2.2.2.2) (hm : w.2.2.2.2.2 ≤ 2147483647) {b : Int} {Ws : Nat → WF} (iv : InvX b Ws h) (hb : b ≤ 600000) (g : ∀ h2 Ws2, InvX (b) Ws2 h2 → Wt p l e R s m args below meth c cells slots Q w A nMe 2098 (lsH i z5 z6) [] h2) : Wt p l e R s m args below meth c cells slots Q w A nMe 1749 (lsH i z5 z6) [] h := by
  obtain ⟨v, h1, h2, W2, r1, r2, i2⟩ := (Pr_X iv (c_meant iv.1.1 (w.2.2.2.2.1 (i + 1)))).E
  have lc : mL 159 = 2 := by decide +kernel
  have lm : mL 290 = 2 := by decide +kernel
  refine L_case K (kc := 159) (km := 290) (ic := 180) (im := 183) (q := 329) (cs := [1]) (h1 := h1) (h2 := h2) (v := v) hn hm (by decide) (by decide +kernel) (by decide +kernel) (by decide +kernel) (by rw [lc]; decide) (by rw [lm]; decide) (by decide +kernel) (by decide +kernel) ?_ ?_ (g h2 W2 i2)
  · rw [ent_eq9 lc rfl]; exact r1
  · rw [ent_eq9 lm rfl]; exact r2
theorem ca_37 (K : LX p R s m args c cells slots w A) {i : Nat} {z5 z6 : MV} {h : MH} (hn : i + 7 ≤ w.2.2.2.2.2) (hm : w.2.2.2.2.2 ≤ 2147483647) {b : Int} {Ws : Nat → WF} (iv : InvX b Ws h) (hb : b ≤ 600000) (g : ∀ h2 Ws2, InvX (b) Ws2 h2 → Wt p l e R s m args below meth c cells slots Q w A nMe 2098 (lsH i z5 z6) [] h2) : Wt p l e R s m args below meth c cells slots Q w A nMe 1774 (lsH i z5 z6) [] h := by
  obtain ⟨v, h1, h2, W2, r1, r2, i2⟩ := (Pr_X iv (c_following iv.1.1 )).E
  have lc : mL 162 = 5 := by decide +kernel
  have lm : mL 293 = 4 := by decide +kernel
  refine L_case K (kc := 162) (km := 293) (ic := 184) (im := 187) (q := 316) (cs := []) (h1 := h1) (h2 := h2) (v := v) hn hm (by decide) (by decide +kernel) (by decide +kernel) (by decide +kernel) (by rw [lc]; decide) (by rw [lm]; decide) (by decide +kernel) (by decide +kernel) ?_ ?_ (g h2 W2 i2)
  · rw [ent_eq9 lc rfl]; exact r1
  · rw [ent_eq9 lm rfl]; exact r2
theorem ca_38 (K : LX p R s m args c cells slots w A) {i : Nat} {z5 z6 : MV} {h : MH} (hn : i + 7 ≤ w.2.2.2.2.2) (hm : w.2.2.2.2.2 ≤ 2147483647) {b : Int} {Ws : Nat → WF} (iv : InvX b Ws h) (hb : b ≤ 600000) (g : ∀ h2 Ws2, InvX (b) Ws2 h2 → Wt p l e R s m args below meth c cells slots Q w A nMe 2098 (lsH i z5 z6) [] h2) : Wt p l e R s m args below meth c cells slots Q w A nMe 1787 (lsH i z5 z6) [] h := by
  obtain ⟨v, h1, h2, W2, r1, r2, i2⟩ := (Pr_X iv (c_stock iv.1.1 (w.2.2.2.2.1 (i + 1)))).E
  have lc : mL 168 = 2 := by decide +kernel
  have lm : mL 294 = 2 := by decide +kernel
  refine L_case K (kc := 168) (km := 294) (ic := 188) (im := 191) (q := 291) (cs := [1]) (h1 := h1) (h2 := h2) (v := v) hn hm (by decide) (by decide +kernel) (by decide +kernel) (by decide +kernel) (by rw [lc]; decide) (by rw [lm]; decide) (by decide +kernel) (by decide +kernel) ?_ ?_ (g h2 W2 i2)
  · rw [ent_eq9 lc rfl]; exact r1
  · rw [ent_eq9 lm rfl]; exact r2
theorem ca_39 (K : LX p R s m args c cells slots w A) {i : Nat} {z5 z6 : MV} {h : MH} (hn : i + 7 ≤ w.2.2.2.2.2) (hm : w.2.2.2.2.2 ≤ 2147483647) {b : Int} {Ws : Nat → WF} (iv : InvX b Ws h) (hb : b ≤ 600000) (g : ∀ h2 Ws2, InvX (b) Ws2 h2 → Wt p l e R s m args below meth c cells slots Q w A nMe 2098 (lsH i z5 z6) [] h2) : Wt p l e R s m args below meth c cells slots Q w A nMe 1812 (lsH i z5 z6) [] h := by
  obtain ⟨v, h1, h2, W2, r1, r2, i2⟩ := (Pr_X iv (c_hays iv.1.1 (by omega) (w.2.2.2.2.1 (i + 1)))).E
  have lc : mL 169 = 5 := by decide +kernel
  have lm : mL 295 = 3 := by decide +kernel
  refine L_case K (kc := 169) (km := 295) (ic := 192) (im := 195) (q := 266) (cs := [1]) (h1 := h1) (h2 := h2) (v := v) hn hm (by decide) (by decide +kernel) (by decide +kernel) (by decide +kernel) (by rw [lc]; decide) (by rw [lm]; decide) (by decide +kernel) (by decide +kernel) ?_ ?_ (g h2 W2 i2)
  · rw [ent_eq9 lc rfl]; exact r1
  · rw [ent_eq9 lm rfl]; exact r2
theorem ca_40 (K : LX p R s m args c cells slots w A) {i : Nat} {z5 z6 : MV} {h : MH} (hn : i + 7 ≤ w.2.2.2.2.2) (hm : w.2.2.2.2.2 ≤ 2147483647) {b : Int} {Ws : Nat → WF} (iv : InvX b Ws h) (hb : b ≤ 600000) (g : ∀ h2 Ws2, InvX (b) Ws2 h2 → Wt p l e R s m args below meth c cells slots Q w A nMe 2098 (lsH i z5 z6) [] h2) : Wt p l e R s m args below meth c cells slots Q w A nMe 1837 (lsH i z5 z6) [] h := by
  obtain ⟨v, h1, h2, W2, r1, r2, i2⟩ := (Pr_X iv (c_best iv.1.1 (w.2.2.2.2.1 (i + 1)) (w.2.2.2.2.1 (i + 2)))).E
  have lc : mL 170 = 3 := by decide +kernel
  have lm : mL 297 = 5 := by decide +kernel
  refine L_case K (kc := 170) (km := 297) (ic := 196) (im := 199) (q := 229) (cs := [1, 2]) (h1 := h1) (h2 := h2) (v := v) hn hm (by decide) (by decide +kernel) (by decide +kernel) (by decide +kernel) (by rw [lc]; decide) (by rw [lm]; decide) (by decide +kernel) (by decide +kernel) ?_ ?_ (g h2 W2 i2)
  · rw [ent_eq9 lc rfl]; exact r1
  · rw [ent_eq9 lm rfl]; exact r2
theorem ca_41 (K : LX p R s m args c cells slots w A) {i : Nat} {z5 z6 : MV} {h : MH} (hn : i + 7 ≤ w.2.2.2.2.2) (hm : w.2.2.2.2.2 ≤ 2147483647) {b : Int} {Ws : Nat → WF} (iv : InvX b Ws h) (hb : b ≤ 600000) (g : ∀ h2 Ws2, InvX (b) Ws2 h2 → Wt p l e R s m args below meth c cells slots Q w A nMe 2098 (lsH i z5 z6) [] h2) : Wt p l e R s m args below meth c cells slots Q w A nMe 1874 (lsH i z5 z6) [] h := by
  obtain ⟨v, h1, h2, W2, r1, r2, i2⟩ := (Pr_X iv (c_free iv.1.1 )).E
  have lc : mL 173 = 3 := by decide +kernel
  have lm : mL 299 = 3 := by decide +kernel
  refine L_case K (kc := 173) (km := 299) (ic := 200) (im := 203) (q := 216) (cs := []) (h1 := h1) (h2 := h2) (v := v) hn hm (by decide) (by decide +kernel) (by decide +kernel) (by decide +kernel) (by rw [lc]; decide) (by rw [lm]; decide) (by decide +kernel) (by decide +kernel) ?_ ?_ (g h2 W2 i2)
  · rw [ent_eq9 lc rfl]; exact r1
  · rw [ent_eq9 lm rfl]; exact r2
theorem ca_42 (K : LX p R s m args c cells slots w A) {i : Nat} {z5 z6 : MV} {h : MH} (hn : i + 7 ≤ w.2.2.2.2.2) (hm : w.2.2.2.2.2 ≤ 2147483647) {b : Int} {Ws : Nat → WF} (iv : InvX b Ws h) (hb : b ≤ 600000) (g : ∀ h2 Ws2, InvX (b) Ws2 h2 → Wt p l e R s m args below meth c cells slots Q w A nMe 2098 (lsH i z5 z6) [] h2) : Wt p l e R s m args below meth c cells slots Q w A nMe 1887 (lsH i z5 z6) [] h := by
  obtain ⟨v, h1, h2, W2, r1, r2, i2⟩ := (Pr_X iv (c_home iv.1.1 (w.2.2.2.2.1 (i + 1)))).E
  have lc : mL 174 = 5 := by decide +kernel
  have lm : mL 300 = 4 := by decide +kernel
  refine L_case K (kc := 174) (km := 300) (ic := 204) (im := 207) (q := 191) (cs := [1]) (h1 := h1) (h2 := h2) (v := v) hn hm (by decide) (by decide +kernel) (by decide +kernel) (by decide +kernel) (by rw [lc]; decide) (by rw [lm]; decide) (by decide +kernel) (by decide +kernel) ?_ ?_ (g h2 W2 i2)
  · rw [ent_eq9 lc rfl]; exact r1
  · rw [ent_eq9 lm rfl]; exact r2
theorem ca_43 (K : LX p R s m args c cells slots w A) {i : Nat} {z5 z6 : MV} {h : MH} (hn : i + 7 ≤ w.2.2.2.2.2) (hm : w.2.2.2.2.2 ≤ 2147483647) {b : Int} {Ws : Nat → WF} (iv : InvX b Ws h) (hb : b ≤ 600000) (g : ∀ h2 Ws2, InvX (b) Ws2 h2 → Wt p l e R s m args below meth c cells slots Q w A nMe 2098 (lsH i z5 z6) [] h2) : Wt p l e R s m args below meth c cells slots Q w A nMe 1912 (lsH i z5 z6) [] h := by
  obtain ⟨v, h1, h2, W2, r1, r2, i2⟩ := (Pr_X iv (c_known iv.1.1 (w.2.2.2.2.1 (i + 1)))).E
  have lc : mL 175 = 2 := by decide +kernel
  have lm : mL 301 = 2 := by decide +kernel
  refine L_case K (kc := 175) (km := 301) (ic := 208) (im := 211) (q := 166) (cs := [1]) (h1 := h1) (h2 := h2) (v := v) hn hm (by decide) (by decide +kernel) (by decide +kernel) (by decide +kernel) (by rw [lc]; decide) (by rw [lm]; decide) (by decide +kernel) (by decide +kernel) ?_ ?_ (g h2 W2 i2)
  · rw [ent_eq9 lc rfl]; exact r1
  · rw [ent_eq9 lm rfl]; exact r2
theorem ca_44 (K : LX p R s m args c cells slots w A) {i : Nat} {z5 z6 : MV} {h : MH} (hn : i + 7 ≤ w.2.2.2.2.2) (hm : w.2.2.2.2.2 ≤ 2147483647) {b : Int} {Ws : Nat → WF} (iv : InvX b Ws h) (hb : b ≤ 600000) (g : ∀ h2 Ws2, InvX (b) Ws2 h2 → Wt p l e R s m args below meth c cells slots Q w A nMe 2098 (lsH i z5 z6) [] h2) : Wt p l e R s m args below meth c cells slots Q w A nMe 1937 (lsH i z5 z6) [] h := by
  obtain ⟨v, h1, h2, W2, r1, r2, i2⟩ := (c_gusts iv (w.2.2.2.2.1 (i + 1)) (w.2.2.2.2.1 (i + 2)) (w.2.2.2.2.1 (i + 3)) (w.2.2.2.2.1 (i + 4)) (w.2.2.2.2.1 (i + 5))).E
  have lc : mL 142 = 8 := by decide +kernel
  have lm : mL 302 = 8 := by decide +kernel
  refine L_case K (kc := 142) (km := 302) (ic := 212) (im := 215) (q := 93) (cs := [1, 2, 3, 4, 5]) (h1 := h1) (h2 := h2) (v := v) hn hm (by decide) (by decide +kernel) (by decide +kernel) (by decide +kernel) (by rw [lc]; decide) (by rw [lm]; decide) (by decide +kernel) (by decide +kernel) ?_ ?_ (g h2 W2 i2)
  · rw [ent_eq9 lc rfl]; exact r1
  · rw [ent_eq9 lm rfl]; exact r2
theorem ca_45 (K : LX p R s m args c cells slots w A) {i : Nat} {z5 z6 : MV} {h : MH} (hn : i + 7 ≤ w.2.2.2.2.2) (hm : w.2.2.2.2.2 ≤ 2147483647) {b : Int} {Ws : Nat → WF} (iv : InvX b Ws h) (hb : b ≤ 600000) (g : ∀ h2 Ws2, InvX (b) Ws2 h2 → Wt p l e R s m args below meth c cells slots Q w A nMe 2098 (lsH i z5 z6) [] h2) : Wt p l e R s m args below meth c cells slots Q w A nMe 2010 (lsH i z5 z6) [] h := by
  obtain ⟨v, h1, h2, W2, r1, r2, i2⟩ := (c_passing iv (w.2.2.2.2.1 (i + 1)) (w.2.2.2.2.1 (i + 2))).E
  have lc : mL 144 = 9 := by decide +kernel
  have lm : mL 303 = 6 := by decide +kernel
  refine L_case K (kc := 144) (km := 303) (ic := 216) (im := 219) (q := 56) (cs := [1, 2]) (h1 := h1) (h2 := h2) (v := v) hn hm (by decide) (by decide +kernel) (by decide +kernel) (by decide +kernel) (by rw [lc]; decide) (by rw [lm]; decide) (by decide +kernel) (by decide +kernel) ?_ ?_ (g h2 W2 i2)
  · rw [ent_eq9 lc rfl]; exact r1
  · rw [ent_eq9 lm rfl]; exact r2
theorem ca_46 (K : LX p R s m args c cells slots w A) {i : Nat} {z5 z6 : MV} {h : MH} (hn : i + 7 ≤ w.2.2.2.2.2) (hm : w.2.2.2.2.2 ≤ 2147483647) {b : Int} {Ws : Nat → WF} (iv : InvX b Ws h) (hb : b ≤ 600000) (g : ∀ h2 Ws2, InvX (b) Ws2 h2 → Wt p l e R s m args below meth c cells slots Q w A nMe 2098 (lsH i z5 z6) [] h2) : Wt p l e R s m args below meth c cells slots Q w A nMe 2047 (lsH i z5 z6) [] h := by
  obtain ⟨v, h1, h2, W2, r1, r2, i2⟩ := (Pr_X iv (c_image iv.1.1 )).E
  have lc : mL 110 = 1 := by decide +kernel
  have lm : mL 304 = 1 := by decide +kernel
  refine L_case K (kc := 110) (km := 304) (ic := 220) (im := 223) (q := 43) (cs := []) (h1 := h1) (h2 := h2) (v := v) hn hm (by decide) (by decide +kernel) (by decide +kernel) (by decide +kernel) (by rw [lc]; decide) (by rw [lm]; decide) (by decide +kernel) (by decide +kernel) ?_ ?_ (g h2 W2 i2)
  · rw [ent_eq9 lc rfl]; exact r1
  · rw [ent_eq9 lm rfl]; exact r2
theorem ca_47 (K : LX p R s m args c cells slots w A) {i : Nat} {z5 z6 : MV} {h : MH} (hn : i + 7 ≤ w.2.2.2.2.2) (hm : w.2.2.2.2.2 ≤ 2147483647) {b : Int} {Ws : Nat → WF} (iv : InvX b Ws h) (hb : b ≤ 600000) (g : ∀ h2 Ws2, InvX (b) Ws2 h2 → Wt p l e R s m args below meth c cells slots Q w A nMe 2098 (lsH i z5 z6) [] h2) : Wt p l e R s m args below meth c cells slots Q w A nMe 2060 (lsH i z5 z6) [] h := by
  obtain ⟨v, h1, h2, W2, r1, r2, i2⟩ := (Pr_X iv (c_back iv.1.1 )).E
  have lc : mL 112 = 1 := by decide +kernel
  have lm : mL 305 = 1 := by decide +kernel
  refine L_case K (kc := 112) (km := 305) (ic := 224) (im := 227) (q := 30) (cs := []) (h1 := h1) (h2 := h2) (v := v) hn hm (by decide) (by decide +kernel) (by decide +kernel) (by decide +kernel) (by rw [lc]; decide) (by rw [lm]; decide) (by decide +kernel) (by decide +kernel) ?_ ?_ (g h2 W2 i2)
  · rw [ent_eq9 lc rfl]; exact r1
  · rw [ent_eq9 lm rfl]; exact r2
theorem ca_48 (K : LX p R s m args c cells slots w A) {i : Nat} {z5 z6 : MV} {h : MH} (hn : i + 7 ≤ w.2.2.2.2.2) (hm : w.2.2.2.2.2 ≤ 2147483647) {b : Int} {Ws : Nat → WF} (iv : InvX b Ws h) (hb : b ≤ 600000) (g : ∀ h2 Ws2, InvX (b) Ws2 h2 → Wt p l e R s m args below meth c cells slots Q w A nMe 2098 (lsH i z5 z6) [] h2) : Wt p l e R s m args below meth c cells slots Q w A nMe 2073 (lsH i z5 z6) [] h := by
  obtain ⟨v, h1, h2, W2, r1, r2, i2⟩ := (Pr_X iv (c_count iv.1.1 (w.2.2.2.2.1 (i + 1)))).E
  have lc : mL 67 = 2 := by decide +kernel
  have lm : mL 306 = 4 := by decide +kernel
  refine L_case K (kc := 67) (km := 306) (ic := 228) (im := 231) (q := 5) (cs := [1]) (h1 := h1) (h2 := h2) (v := v) hn hm (by decide) (by decide +kernel) (by decide +kernel) (by decide +kernel) (by rw [lc]; decide) (by rw [lm]; decide) (by decide +kernel) (by decide +kernel) ?_ ?_ (g h2 W2 i2)
  · rw [ent_eq9 lc rfl]; exact r1
  · rw [ent_eq9 lm rfl]; exact r2
end LAWD
