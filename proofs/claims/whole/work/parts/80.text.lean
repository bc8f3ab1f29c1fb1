/-! a law is told -/
def PrE (b b2 : Int) (kc km : Nat) (ac am : List MV) (h : MH) : Prop := ∃ v h1 h2 Ws, Run 40 kc 0 ac [] h = some (some (.inl v), h1) ∧ Run 40 km 0 am [] h1 = some (some (.inl v), h2) ∧ InvX b2 Ws h2
theorem PrX.E {b b2 : Int} {Ws : Nat → WF} {kc km : Nat} {ac am : List MV} {h : MH} (p : PrX b b2 Ws kc km ac am h) : PrE b b2 kc km ac am h := by
  obtain ⟨v, h1, h2, q1, q2, q3⟩ := p
  exact ⟨v, h1, h2, Ws, q1, q2, q3⟩
def coL (n a j : Nat) : Prop := (a = 1 ∧ j = 1) ∨ (a = 97 ∧ (j = 6 ∨ j = 7)) ∨ a = 25 + n ∨ (a = 29 ∧ j = n) ∨ (a = 6 ∧ j = 1) ∨ (a = 99 ∧ 240 * n ≤ j) ∨ (a = 100 ∧ j = n) ∨ (a = 108 ∧ 256 ≤ j) ∨ (a = 109 ∧ j = 4)
theorem Inv_law {b : Int} {g g2 : MH} (i : Inv0 b g) {n : Nat} (n4 : n < 4) (hn : g 6 1 = n) (e : ∀ a j, relB a j = true → ¬ coL n a j → g2 a j = g a j) (c1 : g2 1 1 = 0) (c2 : g2 97 6 = 0) (c3 : g2 6 1 = (n : Int) + 1) (c4 : g2 97 7 = (n : Int) + 1) : Inv0 b g2 := by
  obtain ⟨t1, t2, t3, t4, t5, t6, t7, t8⟩ := (Inv0_iff b g).mp i
  obtain ⟨l1, l2, l3, l4, l5, l6, l7⟩ := lg_n i
  have e1 : ∀ a, (∀ j, relB a j = true) → a ≠ 1 → a ≠ 97 → ¬ (25 ≤ a ∧ a < 25 + 4) → a ≠ 29 → a ≠ 6 → a ≠ 99 → a ≠ 100 → a ≠ 108 → a ≠ 109 → g2 a = g a := fun a h0 h1 h2 h3 h4 h5 h6 h7 h8 h9 => funext fun j => e a j (h0 j) (by unfold coL; omega)
  have e0 : ∀ a j, relB a j = true → ¬ coL n a j → g2 a j = g a j := e
  have el : lgE g g2 := ⟨e0 _ _ rfl (by unfold coL; omega), e0 _ _ rfl (by unfold coL; omega)⟩
  obtain ⟨w1, w2, w3, w4⟩ := t8
  refine (Inv0_iff b g2).mpr ⟨⟨by rw [c1]; omega, by rw [c1, c2], fun k hk => by rw [c1] at hk; omega⟩, iDamp_c ?_ ?_ t2, iLg_c el ?_ ?_ ?_ ?_ ?_ ?_ ?_ ?_ t3, iNow_c el ?_ ?_ ?_ ?_ ?_ ?_ ?_ ?_ t4, iImg_c (Int.le_refl b) l4 l6 el ?_ ?_ ?_ ?_ ?_ t5, iGue_c el ?_ ?_ ?_ ?_ ?_ ?_ ?_ ?_ ?_ ?_ t6, ?_, ⟨by rw [c3, c4], by rw [c3]; omega, by rw [e0 97 34 rfl (by unfold coL; omega), e0 6 2 rfl (by unfold coL; omega)]; exact w3, by rw [e0 6 2 rfl (by unfold coL; omega), c3]; omega⟩⟩
  all_goals first | (exact e0 _ _ rfl (by unfold coL; omega)) | (exact e1 _ (fun _ => rfl) (by omega) (by omega) (by omega) (by omega) (by omega) (by omega) (by omega) (by omega) (by omega)) | (intro j; exact e0 _ _ rfl (by unfold coL; omega)) | skip
  · intro k hk
    exact e1 _ (fun j => rel_h j k hk) (by omega) (by omega) (by omega) (by omega) (by omega) (by omega) (by omega) (by omega) (by omega)
  · obtain ⟨⟨p1, p2, p3⟩, p4⟩ := t7
    have ec : g2 7 1 = g 7 1 := e0 _ _ rfl (by unfold coL; omega)
    refine ⟨⟨by rw [e0 97 30 rfl (by unfold coL; omega), ec]; exact p1, by rw [ec]; exact p2, by rw [ec]; exact p3⟩, fun k hk => ?_⟩
    rw [ec] at hk
    obtain ⟨q1, q2, q3⟩ := p4 k hk
    have es : g2 31 k = g 31 k := e0 _ _ rfl (by unfold coL; omega)
    have er : g2 (33 + k) = g (33 + k) := e1 _ (fun j => rel_p j k (by omega)) (by omega) (by omega) (by omega) (by omega) (by omega) (by omega) (by omega) (by omega) (by omega)
    rw [es, er, e 109 k rfl (by unfold coL; omega)]
    refine ⟨q1, q2, fun w hw => ?_⟩
    obtain ⟨r1, r2⟩ := q3 w hw
    exact ⟨fun y hy => by rw [e 108 _ rfl (by unfold coL; omega)]; exact r1 y hy, r2⟩
theorem rlL_c {k : Nat} (hk : k < 4) (j : Nat) : relB (25 + k) j = true := relL_B (rel_c j k hk)
theorem InvX_law {b : Int} {Ws : Nat → WF} {W : WF} {g g2 : MH} (i : InvX b Ws g) {n : Nat} (n4 : n < 4) (hn : g 6 1 = n) (e : ∀ a j, relB a j = true → ¬ coL n a j → g2 a j = g a j) (c1 : g2 1 1 = 0) (c2 : g2 97 6 = 0) (c3 : g2 6 1 = (n : Int) + 1) (c4 : g2 97 7 = (n : Int) + 1) (k1 : LawC W (g2 (25 + n)) (g2 29 n)) (k2 : LawM W (fun j => g2 99 (240 * n + j)) (g2 100 n)) : InvX b (fun k => if k = n then W else Ws k) g2 := by
  have el1 : g2 2 4 = g 2 4 := e _ _ rfl (by unfold coL; omega)
  have el2 : g2 2 3 = g 2 3 := e _ _ rfl (by unfold coL; omega)
  have ef : g2 17 = g 17 := funext fun j => e _ _ rfl (by unfold coL; omega)
  have ek : g2 18 = g 18 := funext fun j => e _ _ rfl (by unfold coL; omega)
  refine ⟨⟨Inv_law i.1.1 n4 hn e c1 c2 c3 c4, fun k hk h4 => ?_⟩, fun c f hc hf lw wd wy dp h1 h2 h3 h4 h5 h6 h7 h8 to ht => ?_, fun c f hc hf => ?_⟩
  · by_cases z : k = n
    · subst z
      dsimp only
      rw [if_pos rfl]
      exact ⟨k1, k2⟩
    · dsimp only
      rw [if_neg z]
      rw [c3] at hk
      obtain ⟨j1, j2, j3⟩ := i.1.2 k (by omega) h4
      have er : g2 (25 + k) = g (25 + k) := funext fun j => e _ _ (rlL_c h4 j) (by unfold coL; omega)
      rw [er, e 29 k rfl (by unfold coL; omega), e 100 k rfl (by unfold coL; omega)]
      refine ⟨j1, j2, fun d hm kk k0 k4 hT => j3 d hm kk k0 k4 (fun j hj => ?_)⟩
      have h9 : hm 99 (240 * kk.toNat + j) = g2 99 (240 * k + j) := hT j hj
      rw [e 99 (240 * k + j) rfl (by unfold coL; omega)] at h9
      exact h9
  · rw [el1] at hc
    rw [el2] at hf
    rw [e 39 _ rfl (by unfold coL; omega)] at h8
    have bd := i.2.2 c f hc hf
    rw [hn] at bd
    have lwn : lw < n := by omega
    rw [e 38 _ rfl (by unfold coL; omega), ef, ek, el2, i.2.1 c f hc hf lw wd wy dp h1 (by rw [hn]; exact lwn) h3 h4 h5 h6 h7 h8 to ht]
    have ew : rcF (fun k => if k = n then W else Ws k) lw = rcF Ws lw := by
      funext fo ca c f p w dm
      unfold rcF
      by_cases z : lw = -1
      · rw [if_pos z, if_pos z]
      · have e9 : (fun k => if k = n then W else Ws k) lw.toNat = Ws lw.toNat := if_neg (show ¬ lw.toNat = n by omega)
        rw [if_neg z, if_neg z, e9]
    have ep : plF (fun k => if k = n then W else Ws k) lw = plF Ws lw := by
      funext fo ca c f p way wd wy dm
      unfold plF
      rw [ew]
    have eg : gwF (fun k => if k = n then W else Ws k) lw = gwF Ws lw := by
      funext fo ca m c f wd wy dp w p
      unfold gwF
      rw [ep]
    unfold amF
    rw [eg]
  · rw [el1] at hc
    rw [el2] at hf
    rw [e 39 _ rfl (by unfold coL; omega), c3]
    have := i.2.2 c f hc hf
    omega
theorem toB_ok {x : Int} (h0 : -128 ≤ x) (h1 : x ≤ 127) : toB x = x := by
  have key : ∀ k : Fin 256, toB ((k : Nat) - 128 : Int) = ((k : Nat) - 128 : Int) := by decide +kernel
  have := key ⟨(x + 128).toNat, by omega⟩
  have e : ((((⟨(x + 128).toNat, by omega⟩ : Fin 256) : Nat) : Int) - 128) = x := by
    show (((x + 128).toNat : Nat) : Int) - 128 = x
    omega
  rw [e] at this
  exact this
theorem m_textCopy {T : Nat → Int} {L n : Nat} (x : txOK T L) (l : L ≤ 240) (n4 : n < 4) (d : Nat) : ∀ (r k : Nat) (G : MH), k + r = L → G 97 7 = n → (∀ j, j < L → G 98 j = T j) → (∀ j, j < k → G 99 (240 * n + j) = T j) →
    ∃ G2, Run (d + 1) 216 71 [vR 97, .inl 1, .inl (L : Int), .inl (k : Int)] [] G = some (some (.inl (n : Int)), up (up G2 100 n L) 97 7 ((n : Int) + 1)) ∧ (∀ c, c ≠ 99 → G2 c = G c) ∧ (∀ j, j < 240 * n → G2 99 j = G 99 j) ∧ ∀ j, j < L → G2 99 (240 * n + j) = T j := by
  intro r
  induction r with
  | zero =>
    intro k G hk g1 g2 g3
    refine ⟨G, ?_, fun _ _ => rfl, fun _ _ => rfl, fun j hj => g3 j (by omega)⟩
    have p1 : up G 100 n (L : Int) 97 7 = n := by rw [up_a (by omega)]; exact g1
    rw [q216_71 (hz0 := rfl), if_pos (by omega), g1, if_pos (by omega), show ((n : Nat) : Int).toNat = n by omega, p1, wI_ok (x := (n : Int) + 1) (by omega) (by omega), up_s, wI_ok (by omega) (by omega), show (n : Int) + 1 - 1 = n by omega]
  | succ r ih =>
    intro k G hk g1 g2 g3
    have b := x k (by omega)
    have hd := q216_71 d (.inl 1) rfl (L : Int) (k : Int) G
    rw [if_neg (by omega), if_pos (by omega), g1, wI_ok (x := 240 * (n : Int)) (by omega) (by omega), wI_ok (x := 240 * (n : Int) + k) (by omega) (by omega), if_pos (by omega), show ((k : Nat) : Int).toNat = k by omega, g2 k (by omega), toB_ok b.2.1 b.2.2, show (240 * (n : Int) + k).toNat = 240 * n + k by omega, wI_ok (by omega) (by omega)] at hd
    obtain ⟨G2, u1, u2, u3, u4⟩ := ih (k + 1) (up G 99 (240 * n + k) (T k)) (by omega) (by rw [up_a (by omega)]; exact g1) (by rw [up_ne (by omega)]; exact g2) (fun j hj => by
      by_cases z : j = k
      · rw [z, up_s]
      · rw [up_i (by omega)]; exact g3 j (by omega))
    exact ⟨G2, hd.trans u1, fun c hc => by rw [u2 c hc, up_ne hc], fun j hj => by rw [u3 j hj, up_i (by omega)], u4⟩
/-- the reference tells no text -/
theorem m_textNo {g : MH} {s : Int} (h : ¬ (0 ≤ s ∧ s ≤ 2) ∨ (s = 1 ∧ g 97 7 = 4) ∨ (s = 2 ∧ g 97 30 = 4)) (d : Nat) : Run (d + 1) 216 0 [vR 97, .inl s, vU, vU] [] g = some (some (.inl (-1)), up g 97 0 0) := by
  rw [q216_0, m_isIn, cI_some]
  by_cases q : 0 ≤ s ∧ s ≤ 2
  · rw [bi_t q, if_neg (by omega), up_i (by omega), up_i (by omega)]
    rcases h with h | ⟨h1, h2⟩ | ⟨h1, h2⟩
    · exact absurd q h
    · rw [if_neg (fun z => z h1), if_pos h2]
    · rw [if_pos (by omega), if_neg (fun z => z h1), if_pos h2]
  · rw [bi_f q, if_pos rfl]
theorem m_textGo {g : MH} {s : Int} (h : 0 ≤ s ∧ s ≤ 2) (h1 : s = 1 → ¬ g 97 7 = 4) (h2 : s = 2 → ¬ g 97 30 = 4) (d : Nat) : Run (d + 1) 216 0 [vR 97, .inl s, vU, vU] [] g = Run (d + 1) 216 43 [vR 97, .inl s, vU, vU] [] (up g 97 0 0) := by
  rw [q216_0, m_isIn, cI_some, bi_t h, if_neg (by omega), up_i (by omega), up_i (by omega)]
  by_cases q1 : s = 1
  · rw [if_neg (fun z => z q1), if_neg (h1 q1), if_pos (by omega)]
  · rw [if_pos q1]
    by_cases q2 : s = 2
    · rw [if_neg (fun z => z q2), if_neg (h2 q2)]
    · rw [if_pos q2]
theorem t_fail {b : Int} {Ws : Nat → WF} {h h1 : MH} (i : InvX b Ws h) {s : Int} (q1 : Run 40 44 0 [vR 0, .inl s] [] h = some (some (.inl (-1)), h1)) (q2 : FRc h h1) {L : Nat} (e2 : h 97 6 = L) (e3 : L ≤ 240) (e4 : txOK (h 15) L) (e5 : ∀ j, j < L → h 98 j = h 15 j) (q3 : ¬ (0 ≤ s ∧ s ≤ 2) ∨ (s = 1 ∧ h 97 7 = 4) ∨ (s = 2 ∧ h 97 30 = 4) ∨ ¬ (if s = 0 then flO (lgF (h 15) L 241 0 lsZ) else if s = 1 then flO (lwF (h 15) L 241 0) else if s = 2 then (plnF (h 15) L 16 0).1 else -2) = -1) : PrX b b Ws 44 216 [vR 0, .inl s] [vR 97, .inl s, vU, vU] h := by
  have em : ∀ c, 97 ≤ c → h1 c = h c := fun c hc => q2.m hc
  have i1 := q2.V.X i
  by_cases z : ¬ (0 ≤ s ∧ s ≤ 2) ∨ (s = 1 ∧ h 97 7 = 4) ∨ (s = 2 ∧ h 97 30 = 4)
  · refine ⟨-1, h1, up h1 97 0 0, q1, m_textNo (by rw [em _ (by omega)]; exact z) 39, (FRm_th h1 0).X i1⟩
  · have z1 : 0 ≤ s ∧ s ≤ 2 := Classical.byContradiction fun y => z (Or.inl y)
    have q3' : ¬ (if s = 0 then flO (lgF (h 15) L 241 0 lsZ) else if s = 1 then flO (lwF (h 15) L 241 0) else if s = 2 then (plnF (h 15) L 16 0).1 else -2) = -1 := by
      rcases q3 with y | y | y | y
      · exact absurd z1 y
      · exact absurd (Or.inr (Or.inl y)) z
      · exact absurd (Or.inr (Or.inr y)) z
      · exact y
    have f0 := FRm_th h1 0
    obtain ⟨v, h2, u1, u2, u3, -, -⟩ := m_fault (T := h 15) (L := L) e4 e3 (g := up h1 97 0 0) (by rw [up_i (by omega), em _ (by omega)]; exact e2) (by rw [up_ne (by omega), em _ (by omega)]; exact e5) 6 s
    refine ⟨-1, h1, h2, q1, ?_, (f0.tr u2).X i1⟩
    rw [m_textGo z1 (fun y w => z (Or.inr (Or.inl ⟨y, by rw [← em _ (by omega)]; exact w⟩))) (fun y w => z (Or.inr (Or.inr ⟨y, by rw [← em _ (by omega)]; exact w⟩))) 39, q216_43 (hz1 := rfl) (hz2 := rfl), u1, cI_some, if_neg (by rw [u3]; exact q3')]
theorem flO_ne {α : Type} {o : Nat × Option α} (h : o.2 = none) : ¬ flO o = -1 := by
  unfold flO
  rw [h]
  show ¬ (if (none : Option α).isSome = true then (-1 : Int) else (o.1 : Int)) = -1
  rw [if_neg (by simp)]
  omega
theorem flO_eq {α : Type} {o : Nat × Option α} {e : α} (h : o.2 = some e) : flO o = -1 := by
  unfold flO
  rw [h]
  rfl
theorem t_law {b : Int} {Ws : Nat → WF} {h : MH} (i : InvX b Ws h) : PrE b b 44 216 [vR 0, .inl 1] [vR 97, .inl 1, vU, vU] h := by
  obtain ⟨L, e1, e2, e3, e4, e5⟩ := tp_n i.1.1
  obtain ⟨w1, w2, w3, w4⟩ := lw_n i.1.1
  have hd := q44_0 39 1 h
  rw [if_pos (by omega), q44_27, if_neg (fun z => z rfl), q56_0] at hd
  have n83 : ∀ g : MH, Run 40 44 83 [vR 0, .inl 1] [] g = some (some (.inl (-1)), g) := fun g => by rw [q44_83, if_pos (by omega)]
  by_cases q0 : 4 ≤ h 6 1
  · rw [if_pos q0, cI_some, if_pos rfl, n83] at hd
    exact (t_fail i hd (fun _ _ _ _ _ _ _ _ _ _ _ _ => rfl) e2 e3 e4 e5 (Or.inr (Or.inl ⟨rfl, by omega⟩))).E
  · obtain ⟨h1, u1, u2, u3⟩ := rd_law i.1.1 e1 15
    rw [if_neg q0, cI_some, if_neg (by omega), u1, cI_some] at hd
    cases hs : (lwF (h 15) L 241 0).2 with
    | none =>
      rw [if_pos (flO_ne hs), n83] at hd
      exact (t_fail i hd u2 e2 e3 e4 e5 (Or.inr (Or.inr (Or.inr (by rw [if_neg (by omega), if_pos rfl]; exact flO_ne hs))))).E
    | some es =>
      obtain ⟨m1, m2, m3⟩ := u3 es hs
      obtain ⟨n, hn⟩ : ∃ n : Nat, h 6 1 = n := ⟨(h 6 1).toNat, by omega⟩
      obtain ⟨sz, hsz⟩ : ∃ sz, sz = (lcC 0 es).length := ⟨_, rfl⟩
      rw [← hsz] at m1 m3
      have c1 : h1 6 1 = n := by rw [u2 _ _ (by omega) (by omega) (by omega) (by omega) (by omega) (by omega) (by omega) (by omega) (by omega) (by omega)]; exact hn
      have c0 : up h1 1 1 0 6 1 = n := by rw [up_a (by omega)]; exact c1
      have m0 : up h1 1 1 0 5 1 = sz := by rw [up_a (by omega)]; exact m1
      have cf : ∀ (f : Nat → Int), up (cpy (up h1 1 1 0) f (25 + n) 0 0 sz) 29 n (sz : Int) 6 1 = n := fun f => by rw [up_a (by omega), cpy_ne (by omega), up_a (by omega)]; exact c1
      have cc : ∀ (f : Nat → Int), cpy (up h1 1 1 0) f (25 + n) 0 0 sz 6 1 = n := fun f => by rw [cpy_ne (by omega), up_a (by omega)]; exact c1
      rw [if_neg (fun z => z (flO_eq hs)), m0, q57_0, q56_0, c0, if_neg (by omega), cI_some, if_neg (by omega), if_pos (by omega), c0, if_pos (by omega), if_pos (by omega), show ((n : Nat) : Int).toNat = n by omega, show ((sz : Nat) : Int).toNat = sz by omega, cc, if_pos (by omega), show ((n : Nat) : Int).toNat = n by omega, cf, wI_ok (x := (n : Int) + 1) (by omega) (by omega), up_s, wI_ok (by omega) (by omega), cI_some, show (n : Int) + 1 - 1 = n by omega] at hd
      obtain ⟨H1, hH1⟩ : ∃ H1, H1 = up (up (cpy (up h1 1 1 0) (up h1 1 1 0 22) (25 + n) 0 0 sz) 29 n (sz : Int)) 6 1 ((n : Int) + 1) := ⟨_, rfl⟩
      rw [← hH1] at hd
      -- the class' heap by cells
      have k1 : ∀ a j, a ≠ 25 + n → ¬ (a = 29 ∧ j = n) → ¬ (a = 6 ∧ j = 1) → ¬ (a = 1 ∧ j = 1) → H1 a j = h1 a j := by
        intro a j n1 n2 n3 n4
        rw [hH1]
        have s1 : ∀ (g : MH) (c k : Nat) (v : Int), ¬ (a = c ∧ j = k) → up g c k v a j = g a j := by
          intro g c k v ne
          by_cases z : a = c
          · subst z; exact up_i (fun y => ne ⟨rfl, y⟩)
          · exact up_a z
        rw [s1 _ _ _ _ n3, s1 _ _ _ _ n2, cpy_ne n1, s1 _ _ _ _ n4]
      have km : ∀ c, 97 ≤ c → H1 c = h c := fun c hc => funext fun j => by rw [k1 c j (by omega) (by omega) (by omega) (by omega), u2.m hc]
      have kc : H1 6 1 = (n : Int) + 1 := by rw [hH1, up_s]
      have kt : H1 1 1 = 0 := by rw [hH1, up_a (by omega), up_a (by omega), cpy_ne (by omega), up_s]
      have ks : H1 29 n = sz := by rw [hH1, up_a (by omega), up_s]
      have kr : ∀ j, j < sz → H1 (25 + n) j = h1 22 j := fun j hj => by
        rw [hH1, up_ne (by omega), up_ne (by omega), cpy_at, up_ne (by omega)]
        show (if 0 ≤ j ∧ j < 0 + sz then h1 22 (0 + (j - 0)) else _) = _
        rw [if_pos (by omega), show 0 + (j - 0) = j by omega]
      -- the reference
      have f0 := FRm_th H1 0
      obtain ⟨v, h2, v1, v2, v3, -, -⟩ := m_fault (T := h 15) (L := L) e4 e3 (g := up H1 97 0 0) (by rw [up_i (by omega), km _ (by omega)]; exact e2) (by rw [up_ne (by omega), km _ (by omega)]; exact e5) 6 1
      rw [if_neg (by omega), if_pos rfl, flO_eq hs] at v3
      subst v3
      have fr := f0.tr v2
      have g1 : h2 97 7 = n := by rw [fr _ _ (by unfold prG prF_; omega) (by omega) (by omega) (by omega) (by omega) (by omega), km _ (by omega), w1]; exact hn
      have g2 : h2 97 6 = L := by rw [fr _ _ (by unfold prG prF_; omega) (by omega) (by omega) (by omega) (by omega) (by omega), km _ (by omega)]; exact e2
      have g3 : h2 98 = h 98 := funext fun j => by rw [fr _ _ (by omega) (by omega) (by omega) (by omega) (by omega) (by omega), km _ (by omega)]
      obtain ⟨G2, x1, x2, x3, x4⟩ := m_textCopy (T := h 15) (L := L) (n := n) e4 e3 (by omega) 39 L 0 (up h2 97 6 0) (by omega) (by rw [up_i (by omega)]; exact g1) (by rw [up_ne (by omega), g3]; exact e5) (fun j hj => by omega)
      have hm : Run 40 216 0 [vR 97, .inl 1, vU, vU] [] H1 = some (some (.inl (n : Int)), up (up G2 100 n L) 97 7 ((n : Int) + 1)) := by
        rw [m_textGo (by omega) (fun _ => by rw [km _ (by omega), w1]; omega) (fun z => by omega) 39, q216_43 (hz1 := rfl) (hz2 := rfl), v1, cI_some, if_pos rfl, if_neg (fun z => z rfl), g2]
        exact x1
      obtain ⟨H2, hH2⟩ : ∃ H2, H2 = up (up G2 100 n (L : Int)) 97 7 ((n : Int) + 1) := ⟨_, rfl⟩
      rw [← hH2] at hm
      have y1 : ∀ a j, ¬ (a = 99) → ¬ (a = 100 ∧ j = n) → ¬ (a = 97 ∧ (j = 7 ∨ j = 6)) → H2 a j = h2 a j := by
        intro a j n1 n2 n3
        rw [hH2]
        have s1 : ∀ (g : MH) (c k : Nat) (v : Int), ¬ (a = c ∧ j = k) → up g c k v a j = g a j := by
          intro g c k v ne
          by_cases z : a = c
          · subst z; exact up_i (fun y => ne ⟨rfl, y⟩)
          · exact up_a z
        rw [s1 _ _ _ _ (by omega), s1 _ _ _ _ n2, x2 a n1, s1 _ _ _ _ (by omega)]
      have yc : ∀ a, a < 97 → H2 a = H1 a := fun a ha => funext fun j => by rw [y1 a j (by omega) (by omega) (by omega), fr _ _ (by omega) (by omega) (by omega) (by omega) (by omega) (by omega)]
      refine ⟨n, H1, H2, _, hd, hm, InvX_law (W := esW es) i (n := n) (by omega) hn ?_ ?_ ?_ ?_ ?_ ?_ ?_⟩
      · intro a j r nc
        unfold coL at nc
        by_cases za : a < 97
        · rw [yc a za, k1 a j (by omega) (by omega) (by omega) (by omega)]
          exact u2.V a j r
        · have fr2 : h2 a j = H1 a j := by
            apply fr a j
            · intro z; obtain ⟨z1, z2⟩ := z; subst z1; rw [prG_rel z2] at r; cases r
            · intro z; subst z; exact Bool.false_ne_true r
            · intro z; subst z; exact Bool.false_ne_true r
            · intro z; subst z; exact Bool.false_ne_true r
            · omega
            · omega
          by_cases zt : a = 99
          · subst zt
            rw [hH2, up_a (by omega), up_a (by omega), x3 j (by omega), up_a (by omega), fr2, km _ (by omega)]
          · rw [y1 a j zt (by omega) (by omega), fr2, km a (by omega)]
      · rw [yc _ (by omega)]; exact kt
      · rw [hH2, up_i (by omega), up_a (by omega), x2 _ (by omega), up_s]
      · rw [yc _ (by omega)]; exact kc
      · rw [hH2, up_s]
      · rw [yc _ (by omega), yc _ (by omega), ks, hsz]
        refine lawC_of (x_lw 241 0 es hs) (rdL_c _ 0 (fun j j1 j2 => kr j (by omega)) m2) (by omega)
      · have tl : H2 100 n = L := by rw [hH2, up_a (by omega), up_s]
        have lm := lawM_of e4 e3 hs
        rw [tl]
        refine ⟨lm.1, fun d hm k k0 k4 hT => lm.2 d hm k k0 k4 (fun j hj => ?_)⟩
        rw [hT j hj]
        show H2 99 (240 * n + j) = _
        rw [hH2, up_a (by omega), up_a (by omega), x4 j (by omega)]
