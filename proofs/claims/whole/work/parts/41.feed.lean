/-! bytes of numbers -/
theorem shr_bv (x : Int) (s : Nat) (hs : s < 32) : iShr x (s : Int) = ((BitVec.ofInt 32 x).sshiftRight s).toInt := by
  have e : (Int32.ofInt (s : Int) &&& 31).toBitVec = BitVec.ofNat 32 s := by
    show BitVec.ofInt 32 (s : Int) &&& 31#32 = _
    rw [BitVec.ofInt_natCast, ← BitVec.ofNat_and, show (31 : Nat) = 2 ^ 5 - 1 from rfl, Nat.and_two_pow_sub_one_eq_mod, Nat.mod_eq_of_lt (by omega)]
  show ((Int32.ofInt x >>> (Int32.ofInt (s : Int) &&& 31)).toBitVec).toInt = _
  rw [Int32.toBitVec_shiftRight, e]
  have e2 : (BitVec.ofNat 32 s).smod 32#32 = BitVec.ofNat 32 s := by
    apply BitVec.eq_of_toInt_eq
    rw [BitVec.toInt_smod, bv_n (by omega), bv_n (n := 32) (by omega), Int.fmod_eq_emod_of_nonneg _ (by omega)]
    omega
  show ((BitVec.ofInt 32 x).sshiftRight' ((BitVec.ofNat 32 s).smod 32#32)).toInt = _
  rw [e2, show ∀ a b : BitVec 32, a.sshiftRight' b = a.sshiftRight b.toNat from fun _ _ => rfl, BitVec.toNat_ofNat, Nat.mod_eq_of_lt (by omega)]
theorem ushr_bv (x : Int) (s : Nat) (hs : s < 32) : iUshr x (s : Int) = ((BitVec.ofInt 32 x) >>> s).toInt := by
  have e : ((Int32.ofInt (s : Int)).toUInt32 &&& Int32.toUInt32 31).toBitVec = BitVec.ofNat 32 s := by
    show BitVec.ofInt 32 (s : Int) &&& 31#32 = _
    rw [BitVec.ofInt_natCast, ← BitVec.ofNat_and, show (31 : Nat) = 2 ^ 5 - 1 from rfl, Nat.and_two_pow_sub_one_eq_mod, Nat.mod_eq_of_lt (by omega)]
  show (((Int32.ofInt x).toUInt32 >>> ((Int32.ofInt (s : Int)).toUInt32 &&& Int32.toUInt32 31)).toBitVec).toInt = _
  rw [UInt32.toBitVec_shiftRight, e]
  have e2 : BitVec.ofNat 32 s % 32#32 = BitVec.ofNat 32 s := by
    apply BitVec.eq_of_toNat_eq
    rw [BitVec.toNat_umod, BitVec.toNat_ofNat, Nat.mod_eq_of_lt (a := s) (by omega)]
    exact Nat.mod_eq_of_lt hs
  show ((BitVec.ofInt 32 x) >>> (BitVec.ofNat 32 s % 32#32)).toInt = _
  rw [e2, BitVec.ushiftRight_eq', BitVec.toNat_ofNat, Nat.mod_eq_of_lt (by omega)]
theorem and_bv (V : BitVec 32) : iAnd V.toInt 255 = (V &&& 255#32).toInt := by
  show (BitVec.ofInt 32 V.toInt &&& BitVec.ofInt 32 255).toInt = _
  rw [BitVec.ofInt_toInt]
  rfl
theorem toB_bv (V : BitVec 32) : toB V.toInt = ((V.signExtend 8).signExtend 32).toInt := by
  show (((BitVec.ofInt 32 V.toInt).signExtend 8).signExtend 32).toInt = _
  rw [BitVec.ofInt_toInt]
theorem b255 (i : Nat) : (255#32).getLsbD i = decide (i < 8) := by
  rw [BitVec.getLsbD_ofNat, show (255 : Nat) = 2 ^ 8 - 1 from rfl, Nat.testBit_two_pow_sub_one]
  by_cases h : i < 8
  · have : i < 32 := by omega
    simp [h, this]
  · simp [h]
theorem sh_and (x : Int) (s : Nat) (hs : s ≤ 24) : iAnd (iUshr x (s : Int)) 255 = iAnd (iShr x (s : Int)) 255 := by
  rw [ushr_bv x s (by omega), shr_bv x s (by omega), and_bv, and_bv]
  congr 1
  apply BitVec.eq_of_getLsbD_eq
  intro i hi
  rw [BitVec.getLsbD_and, BitVec.getLsbD_and, b255]
  by_cases h : i < 8
  · rw [BitVec.getLsbD_ushiftRight, BitVec.getLsbD_sshiftRight]
    have h1 : s + i < 32 := by omega
    have h2 : ¬ 32 ≤ i := by omega
    simp [h1, h2]
  · simp [h]
theorem sh_toB (x : Int) (s : Nat) (hs : s ≤ 24) : toB (iUshr x (s : Int)) = toB (iShr x (s : Int)) := by
  rw [ushr_bv x s (by omega), shr_bv x s (by omega), toB_bv, toB_bv]
  congr 2
  apply BitVec.eq_of_getLsbD_eq
  intro i hi
  rw [BitVec.getLsbD_signExtend, BitVec.getLsbD_signExtend, BitVec.getLsbD_ushiftRight, BitVec.getLsbD_sshiftRight]
  have h1 : s + i < 32 := by omega
  have h2 : ¬ 32 ≤ i := by omega
  have h3 : i < 32 := by omega
  simp [h1, h2, h3]
theorem toB_b (y : Int) : -128 ≤ toB y ∧ toB y ≤ 127 := by
  unfold toB
  rw [Int8.toInt_toInt32]
  have h1 := Int8.le_toInt ((Int32.ofInt y).toInt8)
  have h2 := Int8.toInt_lt ((Int32.ofInt y).toInt8)
  omega
theorem toB_id {y : Int} (h0 : -128 ≤ y) (h1 : y ≤ 127) : toB y = y := by
  unfold toB
  rw [Int8.toInt_toInt32, Int32.toInt_toInt8, i32_id (by unfold inI; omega), Int.bmod_def]
  split <;> omega
theorem toB_0 (x : Int) (s : Nat) (hs : s ≤ 24) : toB (iShr x (s : Int)) = 0 ↔ iAnd (iShr x (s : Int)) 255 = 0 := by
  rw [shr_bv x s (by omega), toB_bv, and_bv]
  generalize (BitVec.ofInt 32 x).sshiftRight s = V
  have z : ∀ W : BitVec 32, W.toInt = 0 ↔ W = 0#32 := fun W => ⟨fun h => BitVec.eq_of_toInt_eq (by rw [h]; rfl), fun h => by rw [h]; rfl⟩
  rw [z, z]
  constructor
  · intro h
    apply BitVec.eq_of_getLsbD_eq
    intro i hi
    rw [BitVec.getLsbD_and, b255, BitVec.getLsbD_zero]
    by_cases h8 : i < 8
    · have := congrArg (fun W => W.getLsbD i) h
      rw [BitVec.getLsbD_signExtend, BitVec.getLsbD_zero, if_pos h8, BitVec.getLsbD_signExtend, if_pos hi] at this
      simp only [hi, h8, decide_true, Bool.true_and] at this
      rw [this, Bool.false_and]
    · simp [h8]
  · intro h
    have g : ∀ i, i < 8 → V.getLsbD i = false := by
      intro i hi
      have := congrArg (fun W => W.getLsbD i) h
      rw [BitVec.getLsbD_and, b255, BitVec.getLsbD_zero] at this
      simpa [hi] using this
    have e : V.signExtend 8 = 0#8 := by
      apply BitVec.eq_of_getLsbD_eq
      intro i hi
      have h3 : i < 32 := by omega
      rw [BitVec.getLsbD_signExtend, BitVec.getLsbD_zero, g i hi, if_pos h3, Bool.and_false]
    rw [e]
    rfl
/-! feed -/
def nz (x : Int) (s : Nat) : Int := if iAnd (iShr x (s : Int)) 255 = 0 then 0 else 1
theorem nz_b (x : Int) (s : Nat) : 0 ≤ nz x s ∧ nz x s ≤ 1 := by unfold nz; split <;> omega
def bnF (x : Int) : Int := nz x 24 + nz x 16 + nz x 8 + nz x 0
theorem e_bytesIn (d : Nat) (x : Int) (h : MH) : Run d 1 0 [.inl x, vU, vU] [] h = some (some (.inl (bnF x)), h) := by
  have st : ∀ (n : Int) (s : Nat), 0 ≤ n → n ≤ 10 → s ≤ 24 → Run d 1 5 [.inl x, .inl n, .inl (s : Int)] [] h = Run d 1 5 [.inl x, .inl (n + nz x s), .inl ((s : Int) - 8)] [] h := by
    intro n s h0 h1 hs
    have e2 : wI ((s : Int) + -8) = (s : Int) - 8 := by rw [wI_ok (by omega) (by omega)]; omega
    rw [q1_5, if_neg (by omega), sh_and x s hs, e2]
    unfold nz
    split
    · rw [wI_ok (by omega) (by omega)]
    · rw [wI_ok (by omega) (by omega)]
  have n1 := nz_b x 24
  have n2 := nz_b x 16
  have n3 := nz_b x 8
  have n4 := nz_b x 0
  rw [q1_0]
  have s1 := st 0 24 (by omega) (by omega) (by omega)
  have s2 := st (0 + nz x 24) 16 (by omega) (by omega) (by omega)
  have s3 := st (0 + nz x 24 + nz x 16) 8 (by omega) (by omega) (by omega)
  have s4 := st (0 + nz x 24 + nz x 16 + nz x 8) 0 (by omega) (by omega) (by omega)
  refine s1.trans (s2.trans (s3.trans (s4.trans ?_)))
  rw [q1_5, if_pos (by omega)]
  unfold bnF
  rw [Int.zero_add]
theorem m_bytesIn (d : Nat) (x : Int) (h : MH) : Run d 179 0 [.inl x, vU, vU] [] h = some (some (.inl (bnF x)), h) := by
  have st : ∀ (n : Int) (s : Nat), 0 ≤ n → n ≤ 10 → s ≤ 24 → Run d 179 5 [.inl x, .inl n, .inl (s : Int)] [] h = Run d 179 5 [.inl x, .inl (n + nz x s), .inl ((s : Int) - 8)] [] h := by
    intro n s h0 h1 hs
    have e2 : wI ((s : Int) + -8) = (s : Int) - 8 := by rw [wI_ok (by omega) (by omega)]; omega
    rw [q179_5, if_neg (by omega), e2]
    unfold nz
    split
    · rw [wI_ok (by omega) (by omega)]
    · rw [wI_ok (by omega) (by omega)]
  have n1 := nz_b x 24
  have n2 := nz_b x 16
  have n3 := nz_b x 8
  have n4 := nz_b x 0
  rw [q179_0]
  have s1 := st 0 24 (by omega) (by omega) (by omega)
  have s2 := st (0 + nz x 24) 16 (by omega) (by omega) (by omega)
  have s3 := st (0 + nz x 24 + nz x 16) 8 (by omega) (by omega) (by omega)
  have s4 := st (0 + nz x 24 + nz x 16 + nz x 8) 0 (by omega) (by omega) (by omega)
  refine s1.trans (s2.trans (s3.trans (s4.trans ?_)))
  rw [q179_5, if_pos (by omega)]
  unfold bnF
  rw [Int.zero_add]
def fdC (hc hc2 : MH) : Prop := ∀ a j, ¬ (a = 15 ∨ (a = 1 ∧ j = 1)) → hc2 a j = hc a j
def fdM (hm hm2 : MH) : Prop := ∀ a j, ¬ (a = 98 ∨ (a = 97 ∧ j = 6)) → hm2 a j = hm a j
def putR (d : Nat) (x : Int) (hc hm hc2 hm2 : MH) : Prop := (∀ g, Run d 2 0 [vR 1, .inl x, vU, vU] [] (mix hc g) = some (none, mix hc2 g)) ∧ (∀ g, Run d 180 0 [vR 97, .inl x, vU] [] (mix g hm) = some (none, mix g hm2)) ∧ iTape (mix hc2 hm2) ∧ hc2 1 1 = hc 1 1 + bnF x ∧ fdC hc hc2 ∧ fdM hm hm2
theorem put_step (d : Nat) (x : Int) (s : Nat) (hs : s ≤ 24) (hc hm : MH) (z : MV) (hz : cat z = 1) (t : iTape (mix hc hm)) (hn : hc 1 1 + nz x s ≤ 240) : ∃ hc2 hm2 z2, cat z2 = 1 ∧ (∀ g, Run d 2 3 [vR 1, .inl x, .inl (s : Int), z] [] (mix hc g) = Run d 2 3 [vR 1, .inl x, .inl ((s : Int) - 8), z2] [] (mix hc2 g)) ∧ (∀ g, Run d 180 3 [vR 97, .inl x, .inl (s : Int)] [] (mix g hm) = Run d 180 3 [vR 97, .inl x, .inl ((s : Int) - 8)] [] (mix g hm2)) ∧ iTape (mix hc2 hm2) ∧ hc2 1 1 = hc 1 1 + nz x s ∧ fdC hc hc2 ∧ fdM hm hm2 := by
  have e2 : wI ((s : Int) + -8) = (s : Int) - 8 := by rw [wI_ok (by omega) (by omega)]; omega
  obtain ⟨t1, t2, t3⟩ := t
  have t1' : 0 ≤ hc 1 1 ∧ hc 1 1 ≤ 240 := t1
  have t2' : hm 97 6 = hc 1 1 := t2
  by_cases q : iAnd (iShr x (s : Int)) 255 = 0
  · have q2 : toB (iShr x (s : Int)) = 0 := (toB_0 x s hs).mpr q
    have q3 : nz x s = 0 := if_pos q
    refine ⟨hc, hm, .inl (toB (iShr x (s : Int))), rfl, fun g => ?_, fun g => ?_, ⟨t1, t2, t3⟩, by omega, fun _ _ _ => rfl, fun _ _ _ => rfl⟩
    · rw [q2_3 (hz2 := hz), if_neg (by omega), sh_toB x s hs, if_pos q2, e2]
    · rw [q180_3, if_neg (by omega), if_neg (fun z => z q), e2]
  · have q2 : ¬ toB (iShr x (s : Int)) = 0 := fun z => q ((toB_0 x s hs).mp z)
    have q3 : nz x s = 1 := if_neg q
    have bb := toB_b (iShr x (s : Int))
    have e3 : toB (toB (iShr x (s : Int))) = toB (iShr x (s : Int)) := toB_id bb.1 bb.2
    refine ⟨up (up hc 15 (hc 1 1).toNat (toB (iShr x (s : Int)))) 1 1 (hc 1 1 + 1), up (up hm 98 (hc 1 1).toNat (toB (iShr x (s : Int)))) 97 6 (hc 1 1 + 1), .inl (toB (iShr x (s : Int))), rfl, fun g => ?_, fun g => ?_, ⟨?_, ?_, ?_⟩, ?_, ?_, ?_⟩
    · rw [q2_3 (hz2 := hz), if_neg (by omega), sh_toB x s hs, if_neg q2, e2]
      simp (disch := omega) only [mix_c, if_neg, if_pos, up_a, wI_ok, e3, up_mixc]
    · rw [q180_3, if_neg (by omega), if_pos q, e2]
      simp (disch := omega) only [mix_m, if_neg, if_pos, up_a, wI_ok, e3, up_mixm, t2']
    · rw [mix_c (by omega), up_s]; omega
    · rw [mix_m (by omega), mix_c (by omega), up_s, up_s]
    · intro k hk
      rw [mix_c (by omega), up_s] at hk
      rw [mix_m (show ¬ 98 < 97 by omega), mix_c (show 15 < 97 by omega)]
      simp only [up_a (show 98 ≠ 97 by omega), up_a (show 15 ≠ 1 by omega)]
      by_cases zk : k = (hc 1 1).toNat
      · subst zk
        rw [up_s, up_s]
        exact ⟨rfl, q2, bb⟩
      · rw [up_i zk, up_i zk]
        have := t3 k (by show (k : Int) < hc 1 1; omega)
        exact this
    · rw [up_s]; omega
    · intro a j n
      by_cases za : a = 1
      · subst za; rw [up_i (by omega), up_a (by omega)]
      · rw [up_a za, up_a (by omega)]
    · intro a j n
      by_cases za : a = 97
      · subst za; rw [up_i (by omega), up_a (by omega)]
      · rw [up_a za, up_a (by omega)]
theorem put_ok (d : Nat) (x : Int) (hc hm : MH) (t : iTape (mix hc hm)) (hn : hc 1 1 + bnF x ≤ 240) : ∃ hc2 hm2, putR d x hc hm hc2 hm2 := by
  unfold bnF at hn
  have n1 := nz_b x 24
  have n2 := nz_b x 16
  have n3 := nz_b x 8
  have n4 := nz_b x 0
  obtain ⟨c1, m1, z1, y1, a1, b1, t1, l1, f1, g1⟩ := put_step d x 24 (by omega) hc hm vU rfl t (by omega)
  obtain ⟨c2, m2, z2, y2, a2, b2, t2, l2, f2, g2⟩ := put_step d x 16 (by omega) c1 m1 z1 y1 t1 (by omega)
  obtain ⟨c3, m3, z3, y3, a3, b3, t3, l3, f3, g3⟩ := put_step d x 8 (by omega) c2 m2 z2 y2 t2 (by omega)
  obtain ⟨c4, m4, z4, y4, a4, b4, t4, l4, f4, g4⟩ := put_step d x 0 (by omega) c3 m3 z3 y3 t3 (by omega)
  refine ⟨c4, m4, fun g => ?_, fun g => ?_, t4, by unfold bnF; omega, fun a j n => by rw [f4 a j n, f3 a j n, f2 a j n, f1 a j n], fun a j n => by rw [g4 a j n, g3 a j n, g2 a j n, g1 a j n]⟩
  · rw [q2_0]
    refine (a1 g).trans ((a2 g).trans ((a3 g).trans ((a4 g).trans ?_)))
    rw [q2_3 (hz2 := y4), if_pos (by omega)]
  · rw [q180_0]
    refine (b1 g).trans ((b2 g).trans ((b3 g).trans ((b4 g).trans ?_)))
    rw [q180_3, if_pos (by omega)]
theorem bn_b (x : Int) : 0 ≤ bnF x ∧ bnF x ≤ 4 := by
  have n1 := nz_b x 24
  have n2 := nz_b x 16
  have n3 := nz_b x 8
  have n4 := nz_b x 0
  unfold bnF
  omega
theorem c_feed {b : Int} {h : MH} (i : Inv0 b h) (x y z w v : Int) : Pr b b 0 178 [vR 0, .inl x, .inl y, .inl z, .inl w, .inl v, vU] [vR 97, .inl x, .inl y, .inl z, .inl w, .inl v] h := by
  obtain ⟨⟨t1, t2, t3⟩, -⟩ := (Inv0_iff b h).mp i
  have b1 := bn_b x
  have b2 := bn_b y
  have b3 := bn_b z
  have b4 := bn_b w
  have b5 := bn_b v
  have ec : wI (h 1 1 + wI (wI (wI (wI (bnF x + bnF y) + bnF z) + bnF w) + bnF v)) = h 1 1 + bnF x + bnF y + bnF z + bnF w + bnF v := by
    simp (disch := omega) only [wI_ok]
    omega
  have em : wI (wI (wI (wI (wI (h 1 1 + bnF x) + bnF y) + bnF z) + bnF w) + bnF v) = h 1 1 + bnF x + bnF y + bnF z + bnF w + bnF v := by
    simp (disch := omega) only [wI_ok]
  by_cases q : h 1 1 + bnF x + bnF y + bnF z + bnF w + bnF v ≤ 240
  · have t0 : iTape (mix h (up h 97 0 0)) := ⟨t1, t2, t3⟩
    obtain ⟨c1, m1, p1, p2, p3, p4, p5, p6⟩ := put_ok 39 x h (up h 97 0 0) t0 (by omega)
    obtain ⟨c2, m2, r1, r2, r3, r4, r5, r6⟩ := put_ok 39 y c1 m1 p3 (by omega)
    obtain ⟨c3, m3, s1, s2, s3, s4, s5, s6⟩ := put_ok 39 z c2 m2 r3 (by omega)
    obtain ⟨c4, m4, u1, u2, u3, u4, u5, u6⟩ := put_ok 39 w c3 m3 s3 (by omega)
    obtain ⟨c5, m5, v1, v2, v3, v4, v5, v6⟩ := put_ok 39 v c4 m4 u3 (by omega)
    have vv : m5 97 6 = c5 1 1 := v3.2.1
    apply Pr_M
    refine ⟨c5 1 1, c5, m5, fun g => ?_, fun g => ?_, ?_, ?_⟩
    · rw [q0_0]
      simp only [e_bytesIn, cI_some]
      rw [mix_c (by omega), ec, if_pos q, p1, cV_some, r1, cV_some, s1, cV_some, u1, cV_some, v1, cV_some, mix_c (by omega)]
    · rw [q178_0]
      simp only [m_bytesIn, cI_some]
      rw [up_mixm (by omega), mix_m (by omega), up_i (by omega), t2, em, if_pos q, p2, cV_some, r2, cV_some, s2, cV_some, u2, cV_some, v2, cV_some, mix_m (by omega), vv]
    · refine Inv_Tape i (fun a j r n => ?_) v3
      by_cases za : a < 97
      · rw [mix_c za, v5 a j (by omega), u5 a j (by omega), s5 a j (by omega), r5 a j (by omega), p5 a j (by omega)]
      · rw [mix_m za, v6 a j (by omega), u6 a j (by omega), s6 a j (by omega), r6 a j (by omega), p6 a j (by omega)]
        by_cases z1 : a = 97
        · subst z1
          by_cases z2 : j = 0
          · subst z2; exact absurd r Bool.false_ne_true
          · exact up_i z2
        · exact up_a z1
    · rw [mix_self]
      apply resL_e
      intro a j r
      have n : ¬ (a = 15 ∨ a = 98 ∨ (a = 1 ∧ j = 1) ∨ (a = 97 ∧ j = 6) ∨ (a = 97 ∧ j = 0)) := by
        rintro (z | z | ⟨z, z'⟩ | ⟨z, z'⟩ | ⟨z, z'⟩)
        · subst z; exact Bool.false_ne_true r
        · subst z; exact Bool.false_ne_true r
        · subst z; subst z'; exact Bool.false_ne_true r
        · subst z; subst z'; exact Bool.false_ne_true r
        · subst z; subst z'; exact Bool.false_ne_true r
      by_cases za : a < 97
      · rw [mix_c za, v5 a j (by omega), u5 a j (by omega), s5 a j (by omega), r5 a j (by omega), p5 a j (by omega)]
      · rw [mix_m za, v6 a j (by omega), u6 a j (by omega), s6 a j (by omega), r6 a j (by omega), p6 a j (by omega)]
        by_cases z1 : a = 97
        · subst z1
          exact up_i (by omega)
        · exact up_a z1
  · apply Pr_no i (v := -1)
    · rw [q0_0]
      simp only [e_bytesIn, cI_some]
      rw [ec, if_neg q]
    · rw [q178_0]
      simp only [m_bytesIn, cI_some]
      rw [up_i (by omega), t2, em, if_neg q]
