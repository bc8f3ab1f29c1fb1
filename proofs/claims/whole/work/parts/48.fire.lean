/-! a shot, on the state or on a trial -/
def su4 (r : Nat → Int) (j : Nat) (x y z w : Int) : Nat → Int := su (su (su (su r j x) (j + 1) y) (j + 2) z) (j + 3) w
def ldC1 (r : Nat → Int) (k L : Int) : Nat → Int := if r (21 + L).toNat ≤ 0 then su r (11 + k).toNat (mn 99 (r (11 + k).toNat + 1)) else su r (21 + L).toNat (r (21 + L).toNat - 1)
def ldC (r : Nat → Int) (k L nw : Int) : Nat → Int := su (su (ldC1 r k L) (6 + k).toNat L) (29 + L).toNat (iOr (r (29 + L).toNat) nw)
def ldM1 (r : Nat → Int) (k L : Int) : Nat → Int := if r L.toNat ≤ 0 then su r (16 + 3 * k + 1).toNat (mn 99 (r (16 + 3 * k + 1).toNat + 1)) else su r L.toNat (r L.toNat - 1)
def ldM (r : Nat → Int) (k L nw : Int) : Nat → Int := su (su (ldM1 r k L) (16 + 3 * k).toNat L) (8 + L).toNat (iOr (r (8 + L).toNat) nw)
def shC (c : Nat → Int) (k pw L nw : Int) : Nat → Int := su (if L = -1 then su (su c 0 (c 0 - pw)) (16 + k).toNat 2 else ldC (su c 0 (c 0 - pw)) k L nw) 5 (c 5 + 1)
def shV (v : Nat → Int) (k pw L nw : Int) : Nat → Int := if L = -1 then su (su v 31 (v 31 - pw)) (16 + 3 * k + 2).toNat 2 else ldM (su v 31 (v 31 - pw)) k L nw
def lgM (w : Nat → Int) (k fr L pw : Int) : Nat → Int :=
  if w 36 = 60 then su (su4 (su (fun j => if 37 ≤ j ∧ j < 273 then w (j + 4) else w j) 36 59) 273 k fr L pw) 36 60
  else su (su4 w (37 + 4 * (w 36).toNat) k fr L pw) 36 (w 36 + 1)
theorem stR_ld {c v : Nat → Int} (r : stR c v) {k L nw : Int} (hk0 : 0 ≤ k) (hk1 : k < 5) (hL0 : 0 ≤ L) (hL1 : L < 8) : stR (ldC c k L nw) (ldM v k L nw) := by
  have e1 := st_hay r L hL0 hL1
  have e2 := st_hurt r k hk0 hk1
  have e3 := st_news r L hL0 hL1
  unfold ldC ldC1 ldM ldM1
  rw [e1, e2, e3]
  apply stR_news _ L _ hL0 hL1
  apply stR_at _ k _ hk0 hk1
  split
  · exact stR_hurt r k _ hk0 hk1
  · exact stR_hay r L _ hL0 hL1
theorem stR_sh {c v : Nat → Int} (r : stR c v) {k pw L nw : Int} (hk0 : 0 ≤ k) (hk1 : k < 5) (hL : L = -1 ∨ (0 ≤ L ∧ L < 8)) : stR (fun j => if j = 5 then c 5 else shC c k pw L nw j) (shV v k pw L nw) := by
  have r0 := stR_x r 0 (c 0 - pw) (by omega)
  have e31 : v 31 = c 0 := r.2.2.1
  have main : stR (if L = -1 then su (su c 0 (c 0 - pw)) (16 + k).toNat 2 else ldC (su c 0 (c 0 - pw)) k L nw) (shV v k pw L nw) := by
    unfold shV
    rw [e31]
    by_cases q : L = -1
    · rw [if_pos q, if_pos q]
      exact stR_late r0 k 2 hk0 hk1
    · rw [if_neg q, if_neg q]
      exact stR_ld r0 hk0 hk1 (by omega) (by omega)
  have e5 : (if L = -1 then su (su c 0 (c 0 - pw)) (16 + k).toNat 2 else ldC (su c 0 (c 0 - pw)) k L nw) 5 = c 5 := by
    split
    · rw [su_i (by omega), su_i (by omega)]
    · unfold ldC ldC1
      rw [su_i (by omega), su_i (by omega)]
      split
      · rw [su_i (by omega), su_i (by omega)]
      · rw [su_i (by omega), su_i (by omega)]
  refine stR_congr (fun j hj => ?_) (fun _ _ => rfl) main
  by_cases z : j = 5
  · subst z
    rw [if_pos rfl]
    exact e5.symm
  · rw [if_neg z]
    unfold shC
    rw [su_i z]
theorem shC_5 (c : Nat → Int) (k pw L nw : Int) : shC c k pw L nw 5 = c 5 + 1 := by
  unfold shC
  rw [su_s]
theorem lgM_lo {w : Nat → Int} {k fr L pw : Int} {j : Nat} (h36 : 0 ≤ w 36) (h : j < 36) : lgM w k fr L pw j = w j := by
  unfold lgM su4
  split
  · rw [su_i (by omega), su_i (by omega), su_i (by omega), su_i (by omega), su_i (by omega), su_i (by omega)]
    exact if_neg (by omega)
  · rw [su_i (by omega), su_i (by omega), su_i (by omega), su_i (by omega), su_i (by omega)]
theorem lgM_36 {w : Nat → Int} {k fr L pw : Int} : lgM w k fr L pw 36 = if w 36 = 60 then 60 else w 36 + 1 := by
  unfold lgM
  split
  · rw [su_s]
  · rw [su_s]
theorem shV_hi {v : Nat → Int} {k pw L nw : Int} {j : Nat} (hk0 : 0 ≤ k) (hk1 : k < 5) (hL : L = -1 ∨ (0 ≤ L ∧ L < 8)) (h : 35 ≤ j) : shV v k pw L nw j = v j := by
  unfold shV
  split
  · rw [su_i (by omega), su_i (by omega)]
  · unfold ldM ldM1
    rw [su_i (by omega), su_i (by omega)]
    split
    · rw [su_i (by omega), su_i (by omega)]
    · rw [su_i (by omega), su_i (by omega)]
/-- class and reference after a shot -/
theorem stR_shot {c v : Nat → Int} (r : stR c v) {k pw L nw fr : Int} (h5 : 0 ≤ c 5) (hk0 : 0 ≤ k) (hk1 : k < 5) (hL : L = -1 ∨ (0 ≤ L ∧ L < 8)) : stR (shC c k pw L nw) (lgM (shV v k pw L nw) k fr L pw) := by
  have r0 := stR_sh r (pw := pw) (nw := nw) hk0 hk1 hL
  have e36 : shV v k pw L nw 36 = v 36 := shV_hi hk0 hk1 hL (by omega)
  have v36 : v 36 = if c 5 ≤ 60 then c 5 else 60 := r.2.2.2.2.2.2.2
  have v0 : 0 ≤ shV v k pw L nw 36 := by rw [e36, v36]; split <;> omega
  obtain ⟨r1, r2, s1, s2, s3, s4, s5, s6⟩ := r0
  refine ⟨fun f hf => ?_, fun i hi => ?_, ?_, ?_, ?_, ?_, ?_, ?_⟩
  · rw [lgM_lo v0 (by omega), lgM_lo v0 (by omega)]
    have := r1 f hf
    exact ⟨this.1.trans (if_neg (by omega)), this.2.trans (if_neg (by omega))⟩
  · rw [lgM_lo v0 (by omega), lgM_lo v0 (by omega), lgM_lo v0 (by omega)]
    have := r2 i hi
    exact ⟨this.1.trans (if_neg (by omega)), this.2.1.trans (if_neg (by omega)), this.2.2.trans (if_neg (by omega))⟩
  · rw [lgM_lo v0 (by omega), s1]
    exact if_neg (by omega)
  · rw [lgM_lo v0 (by omega), s2]
    exact if_neg (by omega)
  · rw [lgM_lo v0 (by omega), s3]
    exact if_neg (by omega)
  · rw [lgM_lo v0 (by omega), s4]
    exact if_neg (by omega)
  · rw [lgM_lo v0 (by omega), s5]
    exact if_neg (by omega)
  · rw [lgM_36, e36, v36, shC_5]
    split <;> split <;> split <;> omega
theorem shot_R {c v sh : Nat → Int} (r : stR c v) {k pw L nw fr : Int} (h5 : 0 ≤ c 5) (hk0 : 0 ≤ k) (hk1 : k < 5) (hL : L = -1 ∨ (0 ≤ L ∧ L < 8)) : shotR (c 5) sh (su4 sh (4 * ((c 5).toNat % 100)) k fr L pw) v (lgM (shV v k pw L nw) k fr L pw) := by
  have e36 : shV v k pw L nw 36 = v 36 := shV_hi hk0 hk1 hL (by omega)
  have v36 : v 36 = if c 5 ≤ 60 then c 5 else 60 := r.2.2.2.2.2.2.2
  have row : ∀ (w : Nat → Int) (j n u : Nat), u < 4 → su4 w (j) k fr L pw (j + u) = (if u = 0 then k else if u = 1 then fr else if u = 2 then L else pw) := by
    intro w j n u hu
    unfold su4
    rcases (show u = 0 ∨ u = 1 ∨ u = 2 ∨ u = 3 by omega) with rfl | rfl | rfl | rfl
    · rw [su_i (by omega), su_i (by omega), su_i (by omega), Nat.add_zero, su_s]; rfl
    · rw [su_i (by omega), su_i (by omega), su_s]; rfl
    · rw [su_i (by omega), su_s]; rfl
    · rw [su_s]; rfl
  have off : ∀ (w : Nat → Int) (j i : Nat), (i < j ∨ j + 4 ≤ i) → su4 w j k fr L pw i = w i := by
    intro w j i hi
    unfold su4
    rw [su_i (by omega), su_i (by omega), su_i (by omega), su_i (by omega)]
  refine ⟨fun u => if u = 0 then k else if u = 1 then fr else if u = 2 then L else pw, fun n u hu hn => ?_, fun n u hu hn hs => ?_⟩
  · by_cases z : n = (c 5).toNat % 100
    · subst z
      rw [if_pos rfl, row _ _ 0 u hu]
    · rw [if_neg z, off _ _ _ (by omega)]
  · unfold lgM
    rw [e36]
    by_cases z : c 5 < 60
    · have e : v 36 = c 5 := by rw [v36, if_pos (by omega)]
      rw [if_pos z, if_neg (by omega), su_i (by omega), e]
      by_cases z2 : (n : Int) = c 5
      · rw [if_pos z2, show (c 5).toNat = n by omega, row _ _ 0 u hu]
      · rw [if_neg z2, off _ _ _ (by omega)]
        exact shV_hi hk0 hk1 hL (by omega)
    · have e : v 36 = 60 := by rw [v36]; split <;> omega
      rw [if_neg z, if_pos e, su_i (by omega)]
      by_cases z2 : n = 59
      · subst z2
        rw [if_pos rfl, show 37 + 4 * 59 + u = 273 + u by omega, row _ _ 0 u hu]
      · rw [if_neg z2, off _ _ _ (by omega), su_i (by omega), if_pos (by omega), show 37 + 4 * n + u + 4 = 37 + 4 * (n + 1) + u by omega]
        exact shV_hi hk0 hk1 hL (by omega)
theorem stOK_shot {f n b : Int} {c : Nat → Int} (o : stOK f n b c) {k pw L nw : Int} (hk0 : 0 ≤ k) (hk1 : k < n) (hn : n ≤ 5) (hf : f ≤ 8) (hL : L = -1 ∨ (0 ≤ L ∧ L < f)) (hp0 : 0 ≤ pw) (hp1 : pw ≤ c 0) (hw0 : 0 ≤ nw) (hw1 : nw ≤ 63) : stOK f n (b + 1) (shC c k pw L nw) := by
  have o0 : stOK f n b (su c 0 (c 0 - pw)) := stOK_x o 0 _ (by omega) hn hf (by have := o.1.1; omega) (by omega) (by omega) (by omega) (by omega)
  have o1 : stOK f n b (if L = -1 then su (su c 0 (c 0 - pw)) (16 + k).toNat 2 else ldC (su c 0 (c 0 - pw)) k L nw) := by
    split
    · exact stOK_late o0 k 2 hk0 hk1 (by omega) hn hf
    · have hay := so_hay o0 L (by omega) (by omega)
      have hurt := so_hurt o0 k hk0 (by omega)
      have news := so_news o0 L (by omega) (by omega)
      have orb := or_le (k := 6) (x := su c 0 (c 0 - pw) (29 + L).toNat) (y := nw) (by omega) news.1 (by omega) hw0 (by omega)
      unfold ldC ldC1
      apply stOK_news _ L _ (by omega) (by omega) (by omega) hn hf
      apply stOK_at _ k _ hk0 hk1 (by omega) hn hf
      split
      · apply stOK_hurt o0 k _ hk0 hk1 _ hn hf
        unfold mn
        split <;> omega
      · exact stOK_hay o0 L _ (by omega) (by omega) (by omega) hn hf
  have e5 : (if L = -1 then su (su c 0 (c 0 - pw)) (16 + k).toNat 2 else ldC (su c 0 (c 0 - pw)) k L nw) 5 = c 5 := by
    split
    · rw [su_i (by omega), su_i (by omega)]
    · unfold ldC ldC1
      rw [su_i (by omega), su_i (by omega)]
      split
      · rw [su_i (by omega), su_i (by omega)]
      · rw [su_i (by omega), su_i (by omega)]
  unfold shC
  generalize (if L = -1 then su (su c 0 (c 0 - pw)) (16 + k).toNat 2 else ldC (su c 0 (c 0 - pw)) k L nw) = r at o1 e5
  obtain ⟨⟨s0, s1, s2, s3, s4, s5⟩, p2, p3, p4, p5⟩ := o1
  refine ⟨⟨?_, ?_, ?_, ?_, ?_, ?_⟩, fun i hi => ?_, fun i hi h5 => ?_, fun i hi => ?_, fun i hi h5 => ?_⟩
  · rw [su_i (by omega)]; exact s0
  · rw [su_i (by omega)]; exact s1
  · rw [su_i (by omega)]; exact s2
  · rw [su_i (by omega)]; exact s3
  · rw [su_i (by omega)]; exact s4
  · rw [su_s]; omega
  · rw [su_i (by omega), su_i (by omega), su_i (by omega)]; exact p2 i hi
  · rw [su_i (by omega), su_i (by omega), su_i (by omega)]; exact p3 i hi h5
  · rw [su_i (by omega), su_i (by omega)]; exact p4 i hi
  · rw [su_i (by omega), su_i (by omega)]; exact p5 i hi h5
theorem nt4 (h : MH) (a j : Nat) (x y z w : Int) : up (up (up (up h a j x) a (j + 1) y) a (j + 2) z) a (j + 3) w = rs h a (su4 (h a) j x y z w) := by
  unfold su4
  rw [up_is_rs h, up_rs, up_rs, up_rs]
theorem e_stLand (d : Nat) (k L nw : Int) (h : MH) (hk0 : 0 ≤ k) (hk1 : k < 5) (hL0 : 0 ≤ L) (hL1 : L < 8) (hb : ∀ j, j < 37 → -1000 ≤ h 91 j ∧ h 91 j ≤ 1000000) : Run d 88 0 [vR 12, .inl k, .inl L, .inl nw] [] h = some (none, rs h 91 (ldC (h 91) k L nw)) := by
  have b1 := hb (11 + k).toNat (by omega)
  have b2 := hb (21 + L).toNat (by omega)
  have fin : ∀ r : Nat → Int, r (29 + L).toNat = h 91 (29 + L).toNat → Run d 88 53 [vR 12, .inl k, .inl L, .inl nw] [] (rs h 91 r) = some (none, rs h 91 (su (su r (6 + k).toNat L) (29 + L).toNat (iOr (h 91 (29 + L).toNat) nw))) := by
    intro r hr
    rw [q88_53, wI_ok (x := 6 + k) (by omega) (by omega), wI_ok (x := 29 + L) (by omega) (by omega), if_pos (by omega), if_pos (by omega), if_pos (by omega), up_rs, rs_s, up_rs, su_i (by omega), hr]
  rw [q88_0, wI_ok (x := 21 + L) (by omega) (by omega), wI_ok (x := 11 + k) (by omega) (by omega), if_pos (by omega)]
  unfold ldC ldC1
  by_cases q : h 91 (21 + L).toNat ≤ 0
  · rw [if_pos q, if_pos q, if_pos (by omega), if_pos (by omega), wI_ok (by omega) (by omega), up_is_rs, fin _ (by rw [su_i (by omega)])]
  · rw [if_neg q, if_neg q, if_pos (by omega), if_pos (by omega), wI_ok (by omega) (by omega), up_is_rs, fin _ (by rw [su_i (by omega)])]
theorem e_noteShot (d : Nat) (k fr L pw : Int) (h : MH) (h0 : 0 ≤ h 91 5) (h1 : h 91 5 ≤ 1000000) : Run d 89 0 [vR 12, .inl k, .inl fr, .inl L, .inl pw, vU] [] h = some (none, rs (rs h 92 (su4 (h 92) (4 * ((h 91 5).toNat % 100)) k fr L pw)) 91 (su (h 91) 5 (h 91 5 + 1))) := by
  have e0 : wI ((h 91 5).tmod 100 * 4) = 4 * (h 91 5 % 100) := by
    rw [Int.tmod_eq_emod_of_nonneg h0, wI_ok (by omega) (by omega)]; omega
  rw [q89_0]
  simp (disch := omega) only [e0, wI_ok, if_pos, up_a]
  rw [show (4 * (h 91 5 % 100)).toNat = 4 * ((h 91 5).toNat % 100) by omega, show (4 * (h 91 5 % 100) + 1).toNat = 4 * ((h 91 5).toNat % 100) + 1 by omega, show (4 * (h 91 5 % 100) + 2).toNat = 4 * ((h 91 5).toNat % 100) + 2 by omega, show (4 * (h 91 5 % 100) + 3).toNat = 4 * ((h 91 5).toNat % 100) + 3 by omega, nt4, up_is_rs, rs_n (by omega)]
theorem e_fire {Ws : Nat → WF} {h : MH} (i : InvF Ws h) (d : Nat) {b k pw way nw : Int} (o : stOK (h 2 3) (h 2 4) b (h 91)) (hb : b ≤ 900000) (hk0 : 0 ≤ k) (hk1 : k < h 2 4) (hp0 : 1 ≤ pw) (hp1 : pw ≤ 20) :
    ∃ h1, Run (d + 5) 78 0 [vR 0, vR 12, .inl k, .inl pw, .inl way, .inl nw, vU, vU] [] h = some (some (.inl (ldF (h 17) (h 2 3) (plF Ws (h 6 2) (h 17) (h 18) k (h 91 (6 + k).toNat) pw way (h 91 1) (h 91 2) (h 91 3)))), h1) ∧ (∀ a, a ≠ 23 → a ≠ 30 → a ≠ 91 → a ≠ 92 → h1 a = h a) ∧ h1 91 = shC (h 91) k pw (ldF (h 17) (h 2 3) (plF Ws (h 6 2) (h 17) (h 18) k (h 91 (6 + k).toNat) pw way (h 91 1) (h 91 2) (h 91 3))) nw ∧ h1 92 = su4 (h 92) (4 * ((h 91 5).toNat % 100)) k (h 91 (6 + k).toNat) (ldF (h 17) (h 2 3) (plF Ws (h 6 2) (h 17) (h 18) k (h 91 (6 + k).toNat) pw way (h 91 1) (h 91 2) (h 91 3))) pw := by
  obtain ⟨l1, l2, l3, l4, l5, l6, l7⟩ := lgL i.1
  have at_ := so_at o k hk0 hk1
  have oa := so_all o (by omega) (by omega)
  obtain ⟨o0, o1, o2, o3, -, o5⟩ := o.1
  obtain ⟨g1, r1, r2⟩ := e_comesToF i d (c := k) (f := h 91 (6 + k).toNat) (p := pw) (way := way) hk0 hk1 at_.1 at_.2 hp0 hp1 o1.1 (by omega) o3.1 o3.2
  have pb := plF_bF i (c := k) (f := h 91 (6 + k).toNat) (p := pw) (way := way) (wd := h 91 1) (wy := h 91 2) (dm := h 91 3) hk0 hk1 at_.1 at_.2
  generalize hfr : h 91 (6 + k).toNat = fr at r1 pb at_
  generalize hpl : plF Ws (h 6 2) (h 17) (h 18) k fr pw way (h 91 1) (h 91 2) (h 91 3) = pl at r1 pb
  have q1 : g1 2 = h 2 := r2 _ (by omega) (by omega)
  have q2 : g1 17 = h 17 := r2 _ (by omega) (by omega)
  have q3 : g1 91 = h 91 := r2 _ (by omega) (by omega)
  have q4 : g1 92 = h 92 := r2 _ (by omega) (by omega)
  have ln := e_fortNear (d + 3) pl g1 (by rw [q1]; exact l3) (by rw [q1]; exact l4) (by omega) (fun f hf => by rw [q1] at hf; rw [q2]; exact ((okL_ i.1 (by omega)).2.2.2.1 f hf).1)
  rw [q1, q2] at ln
  have lb := ldF_b (h 17) (h 2 3) pl l3
  generalize hL : ldF (h 17) (h 2 3) pl = L at ln lb
  rw [q78_0, wI_ok (x := 6 + k) (by omega) (by omega), if_pos (by omega), hfr, r1, cI_some, ln, cI_some, q3, wI_ok (x := h 91 0 - pw) (by omega) (by omega), wI_ok (x := 16 + k) (by omega) (by omega), up_is_rs, q3]
  by_cases q : L = -1
  · refine ⟨rs (rs (rs g1 91 (su (su (h 91) 0 (h 91 0 - pw)) (16 + k).toNat 2)) 92 (su4 (h 92) (4 * ((h 91 5).toNat % 100)) k fr L pw)) 91 (shC (h 91) k pw L nw), ?_, ?_, ?_, ?_⟩
    · rw [if_neg (fun z => z q), if_pos (by omega), up_rs, e_noteShot _ _ _ _ _ _ (by rw [rs_s, su_i (by omega), su_i (by omega)]; exact o5.1) (by rw [rs_s, su_i (by omega), su_i (by omega)]; omega), cV_some, rs_s, rs_n (by omega), q4, su_i (by omega), su_i (by omega)]
      unfold shC
      rw [if_pos q]
    · intro a a1 a2 a3 a4
      rw [rs_n a3, rs_n a4, rs_n a3, r2 a a1 a2]
    · rw [rs_s]
    · rw [rs_n (by omega), rs_s]
  · refine ⟨rs (rs (rs g1 91 (ldC (su (h 91) 0 (h 91 0 - pw)) k L nw)) 92 (su4 (h 92) (4 * ((h 91 5).toNat % 100)) k fr L pw)) 91 (shC (h 91) k pw L nw), ?_, ?_, ?_, ?_⟩
    · have e5 : ldC (su (h 91) 0 (h 91 0 - pw)) k L nw 5 = h 91 5 := by
        unfold ldC ldC1
        rw [su_i (by omega), su_i (by omega)]
        split
        · rw [su_i (by omega), su_i (by omega)]
        · rw [su_i (by omega), su_i (by omega)]
      rw [if_pos q, e_stLand _ _ _ _ _ hk0 (by omega) (by omega) (by omega) (fun j hj => by
          rw [rs_s]
          unfold su
          have := oa j hj
          split <;> omega), cV_some, rs_s, rs_rs, e_noteShot _ _ _ _ _ _ (by rw [rs_s, e5]; exact o5.1) (by rw [rs_s, e5]; omega), cV_some, rs_s, rs_n (by omega), q4, e5]
      unfold shC
      rw [if_neg q]
    · intro a a1 a2 a3 a4
      rw [rs_n a3, rs_n a4, rs_n a3, r2 a a1 a2]
    · rw [rs_s]
    · rw [rs_n (by omega), rs_s]
theorem e_stLandT (d : Nat) (k L nw : Int) (h : MH) (hk0 : 0 ≤ k) (hk1 : k < 5) (hL0 : 0 ≤ L) (hL1 : L < 8) (hb : ∀ j, j < 37 → -1000 ≤ h 93 j ∧ h 93 j ≤ 1000000) : Run d 88 0 [vR 13, .inl k, .inl L, .inl nw] [] h = some (none, rs h 93 (ldC (h 93) k L nw)) := by
  have b1 := hb (11 + k).toNat (by omega)
  have b2 := hb (21 + L).toNat (by omega)
  have fin : ∀ r : Nat → Int, r (29 + L).toNat = h 93 (29 + L).toNat → Run d 88 53 [vR 13, .inl k, .inl L, .inl nw] [] (rs h 93 r) = some (none, rs h 93 (su (su r (6 + k).toNat L) (29 + L).toNat (iOr (h 93 (29 + L).toNat) nw))) := by
    intro r hr
    rw [q88_53_1, wI_ok (x := 6 + k) (by omega) (by omega), wI_ok (x := 29 + L) (by omega) (by omega), if_pos (by omega), if_pos (by omega), if_pos (by omega), up_rs, rs_s, up_rs, su_i (by omega), hr]
  rw [q88_0_1, wI_ok (x := 21 + L) (by omega) (by omega), wI_ok (x := 11 + k) (by omega) (by omega), if_pos (by omega)]
  unfold ldC ldC1
  by_cases q : h 93 (21 + L).toNat ≤ 0
  · rw [if_pos q, if_pos q, if_pos (by omega), if_pos (by omega), wI_ok (by omega) (by omega), up_is_rs, fin _ (by rw [su_i (by omega)])]
  · rw [if_neg q, if_neg q, if_pos (by omega), if_pos (by omega), wI_ok (by omega) (by omega), up_is_rs, fin _ (by rw [su_i (by omega)])]
theorem e_noteShotT (d : Nat) (k fr L pw : Int) (h : MH) (h0 : 0 ≤ h 93 5) (h1 : h 93 5 ≤ 1000000) : Run d 89 0 [vR 13, .inl k, .inl fr, .inl L, .inl pw, vU] [] h = some (none, rs (rs h 94 (su4 (h 94) (4 * ((h 93 5).toNat % 100)) k fr L pw)) 93 (su (h 93) 5 (h 93 5 + 1))) := by
  have e0 : wI ((h 93 5).tmod 100 * 4) = 4 * (h 93 5 % 100) := by
    rw [Int.tmod_eq_emod_of_nonneg h0, wI_ok (by omega) (by omega)]; omega
  rw [q89_0_1]
  simp (disch := omega) only [e0, wI_ok, if_pos, up_a]
  rw [show (4 * (h 93 5 % 100)).toNat = 4 * ((h 93 5).toNat % 100) by omega, show (4 * (h 93 5 % 100) + 1).toNat = 4 * ((h 93 5).toNat % 100) + 1 by omega, show (4 * (h 93 5 % 100) + 2).toNat = 4 * ((h 93 5).toNat % 100) + 2 by omega, show (4 * (h 93 5 % 100) + 3).toNat = 4 * ((h 93 5).toNat % 100) + 3 by omega, nt4, up_is_rs, rs_n (by omega)]
theorem e_fireT {Ws : Nat → WF} {h : MH} (i : InvF Ws h) (d : Nat) {b k pw way nw : Int} (o : stOK (h 2 3) (h 2 4) b (h 93)) (hb : b ≤ 900000) (hk0 : 0 ≤ k) (hk1 : k < h 2 4) (hp0 : 1 ≤ pw) (hp1 : pw ≤ 20) :
    ∃ h1, Run (d + 5) 78 0 [vR 0, vR 13, .inl k, .inl pw, .inl way, .inl nw, vU, vU] [] h = some (some (.inl (ldF (h 17) (h 2 3) (plF Ws (h 6 2) (h 17) (h 18) k (h 93 (6 + k).toNat) pw way (h 93 1) (h 93 2) (h 93 3)))), h1) ∧ (∀ a, a ≠ 23 → a ≠ 30 → a ≠ 93 → a ≠ 94 → h1 a = h a) ∧ h1 93 = shC (h 93) k pw (ldF (h 17) (h 2 3) (plF Ws (h 6 2) (h 17) (h 18) k (h 93 (6 + k).toNat) pw way (h 93 1) (h 93 2) (h 93 3))) nw ∧ h1 94 = su4 (h 94) (4 * ((h 93 5).toNat % 100)) k (h 93 (6 + k).toNat) (ldF (h 17) (h 2 3) (plF Ws (h 6 2) (h 17) (h 18) k (h 93 (6 + k).toNat) pw way (h 93 1) (h 93 2) (h 93 3))) pw := by
  obtain ⟨l1, l2, l3, l4, l5, l6, l7⟩ := lgL i.1
  have at_ := so_at o k hk0 hk1
  have oa := so_all o (by omega) (by omega)
  obtain ⟨o0, o1, o2, o3, -, o5⟩ := o.1
  obtain ⟨g1, r1, r2⟩ := e_comesToTF i d (c := k) (f := h 93 (6 + k).toNat) (p := pw) (way := way) hk0 hk1 at_.1 at_.2 hp0 hp1 o1.1 (by omega) o3.1 o3.2
  have pb := plF_bF i (c := k) (f := h 93 (6 + k).toNat) (p := pw) (way := way) (wd := h 93 1) (wy := h 93 2) (dm := h 93 3) hk0 hk1 at_.1 at_.2
  generalize hfr : h 93 (6 + k).toNat = fr at r1 pb at_
  generalize hpl : plF Ws (h 6 2) (h 17) (h 18) k fr pw way (h 93 1) (h 93 2) (h 93 3) = pl at r1 pb
  have q1 : g1 2 = h 2 := r2 _ (by omega) (by omega)
  have q2 : g1 17 = h 17 := r2 _ (by omega) (by omega)
  have q3 : g1 93 = h 93 := r2 _ (by omega) (by omega)
  have q4 : g1 94 = h 94 := r2 _ (by omega) (by omega)
  have ln := e_fortNear (d + 3) pl g1 (by rw [q1]; exact l3) (by rw [q1]; exact l4) (by omega) (fun f hf => by rw [q1] at hf; rw [q2]; exact ((okL_ i.1 (by omega)).2.2.2.1 f hf).1)
  rw [q1, q2] at ln
  have lb := ldF_b (h 17) (h 2 3) pl l3
  generalize hL : ldF (h 17) (h 2 3) pl = L at ln lb
  rw [q78_0_1, wI_ok (x := 6 + k) (by omega) (by omega), if_pos (by omega), hfr, r1, cI_some, ln, cI_some, q3, wI_ok (x := h 93 0 - pw) (by omega) (by omega), wI_ok (x := 16 + k) (by omega) (by omega), up_is_rs, q3]
  by_cases q : L = -1
  · refine ⟨rs (rs (rs g1 93 (su (su (h 93) 0 (h 93 0 - pw)) (16 + k).toNat 2)) 94 (su4 (h 94) (4 * ((h 93 5).toNat % 100)) k fr L pw)) 93 (shC (h 93) k pw L nw), ?_, ?_, ?_, ?_⟩
    · rw [if_neg (fun z => z q), if_pos (by omega), up_rs, e_noteShotT _ _ _ _ _ _ (by rw [rs_s, su_i (by omega), su_i (by omega)]; exact o5.1) (by rw [rs_s, su_i (by omega), su_i (by omega)]; omega), cV_some, rs_s, rs_n (by omega), q4, su_i (by omega), su_i (by omega)]
      unfold shC
      rw [if_pos q]
    · intro a a1 a2 a3 a4
      rw [rs_n a3, rs_n a4, rs_n a3, r2 a a1 a2]
    · rw [rs_s]
    · rw [rs_n (by omega), rs_s]
  · refine ⟨rs (rs (rs g1 93 (ldC (su (h 93) 0 (h 93 0 - pw)) k L nw)) 94 (su4 (h 94) (4 * ((h 93 5).toNat % 100)) k fr L pw)) 93 (shC (h 93) k pw L nw), ?_, ?_, ?_, ?_⟩
    · have e5 : ldC (su (h 93) 0 (h 93 0 - pw)) k L nw 5 = h 93 5 := by
        unfold ldC ldC1
        rw [su_i (by omega), su_i (by omega)]
        split
        · rw [su_i (by omega), su_i (by omega)]
        · rw [su_i (by omega), su_i (by omega)]
      rw [if_pos q, e_stLandT _ _ _ _ _ hk0 (by omega) (by omega) (by omega) (fun j hj => by
          rw [rs_s]
          unfold su
          have := oa j hj
          split <;> omega), cV_some, rs_s, rs_rs, e_noteShotT _ _ _ _ _ _ (by rw [rs_s, e5]; exact o5.1) (by rw [rs_s, e5]; omega), cV_some, rs_s, rs_n (by omega), q4, e5]
      unfold shC
      rw [if_neg q]
    · intro a a1 a2 a3 a4
      rw [rs_n a3, rs_n a4, rs_n a3, r2 a a1 a2]
    · rw [rs_s]
    · rw [rs_n (by omega), rs_s]
