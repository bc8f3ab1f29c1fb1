/-! a run of the small machine gives a method's contract -/
def RmD (d : Nat) : Room := { frames := d + 1, cells := 0, slots := 0, locals := 60 * d + 60 }
/-- what a returning instruction says of the answer -/
def RetF (k pc : Nat) (v : Option MV) : Prop := (decode (mC k) pc = .ok (.ireturn, 1) ∧ ∃ x, v = some (.inl x) ∧ okR (mR k) x = true) ∨ (decode (mC k) pc = .ok (.lreturn, 1) ∧ mR k = some .long ∧ ∃ x, v = some (.inr (.inl x))) ∨ (decode (mC k) pc = .ok (.return_, 1) ∧ mR k = none ∧ v = none)
theorem nar_ok {t : Option FieldType} {x : Int} (h : okR t x = true) : ∃ ty, t = some ty ∧ narrow ty (.int (Int32.ofInt x)) = .int (Int32.ofInt x) := by
  unfold okR at h
  split at h
  · exact ⟨_, rfl, rfl⟩
  · refine ⟨_, rfl, ?_⟩
    have h01 : x = 0 ∨ x = 1 := by simpa [is01] using h
    rcases h01 with q | q <;> (subst q; rfl)
  · refine ⟨_, rfl, ?_⟩
    have hb : -128 ≤ x ∧ x ≤ 127 := by simpa using h
    show Value.int (Int32.ofInt x).toInt8.toInt32 = _
    congr 1
    apply i32_inj
    rw [Int8.toInt_toInt32, Int32.toInt_toInt8, i32_id (by unfold inI; omega)]
    rw [Int.bmod_def]
    split <;> omega
  · refine ⟨_, rfl, ?_⟩
    have hb : 0 ≤ x ∧ x ≤ 65535 := by simpa using h
    have e : Int32.ofInt x = nI x.toNat := by
      apply i32_inj
      rw [i32_id (by unfold inI; omega), nI_toInt (by omega)]
      omega
    rw [e]
    exact (pk_charN (by omega)).1
  · cases h
section MET
variable {p : Program} {l : Launch} {e : Env} {R : Room} {s : State} {m : MethodId} {args : Array Value} {below : List Frame} {meth : Method} {c : Code} {cells slots : Nat} {w : WP} {A : Nat → Prop} {k : Nat}
theorem ret_ok (hx : p.tables.exec = Jvm.exec) (hb : c.code = mC k) (hret : meth.sig.returnType = mR k) (hlocks : meth.locks = false) {v : Option MV} {h : MH} {pc : Nat} {lsA : Array Slot} {H : Heap} {locs : List Loc} (hf : RetF k pc v) (hov : ∀ x, v = some x → okV x) (hw : WR w A s h H locs) :
    W p l e R s m args below meth c H locs cells slots (MQ below (QcM w A v h) args s cells slots A) (F0 m pc lsA (v.toList.map (val w))) := by
  have hq : ∀ t : State, t.heap = H → s.WarmedH t.vm → QcM w A v h args s (.returned (v.map (val w))) t := fun t ht _ =>
    ⟨rfl, by rw [ht]; exact hw.1, hw.2.2.1.F ht, hw.2.2.2, hov⟩
  rcases hf with ⟨hd, x, rfl, hr⟩ | ⟨hd, hr, x, rfl⟩ | ⟨hd, hr, rfl⟩
  · obtain ⟨ty, e1, e2⟩ := nar_ok hr
    exact W.zret hx hb (hret.trans e1) e2 hq hw.2.2.1.2.2 hd hlocks
  · exact W.lret hx hb (hret.trans hr) hq hw.2.2.1.2.2 hd hlocks
  · exact W.vret hx hb (hret.trans hr) hq hw.2.2.1.2.2 hd hlocks
end MET
set_option maxHeartbeats 4000000 in
theorem rn_ok (l : Launch) (w : WP) (A : Nat → Prop) (hz : w.2.1.category = 1) : ∀ (f d k pc : Nat) (ls st : List MV) (h : MH) (v0 : Option MV) (h0 : MH), rn f d k pc ls st h = some (v0, h0) →
    ∀ {p : Program} {e : Env} {R : Room} {s : State} {m : MethodId} {args : Array Value} {below : List Frame} {meth : Method} {c : Code} {cells slots : Nat} {Q : State → Prop}, CX p R s m args c cells slots w A k → d + 1 ≤ R.frames → 60 * d + 60 ≤ R.locals →
    (∀ (pc : Nat) (lsA : Array Slot) (H : Heap) (locs : List Loc), RetF k pc v0 → (∀ x, v0 = some x → okV x) → WR w A s h0 H locs → W p l e R s m args below meth c H locs cells slots Q (F0 m pc lsA (v0.toList.map (val w)))) →
    Wt p l e R s m args below meth c cells slots Q w A k pc ls st h := by
  intro f
  induction f with
  | zero => intro d k pc ls st h v0 h0 hr; cases hr
  | succ f ih =>
    intro d k pc ls st h v0 h0 hr p e R s m args below meth c cells slots Q C hd1 hd2 hret
    unfold rn at hr
    refine stp_ok C (rt := fun v => v = v0 ∧ h = h0) ?_ (stp_imp ?_ ?_ ?_ hr)
    · intro v lsA H locs hv hov hf hw
      obtain ⟨rfl, rfl⟩ := hv
      exact hret pc lsA H locs hf hov hw
    · intro pc2 ls2 st2 h2 q
      exact ih d k pc2 ls2 st2 h2 v0 h0 q C hd1 hd2 hret
    · intro k2 vs pc2 rest q
      cases d with
      | zero => cases q
      | succ d2 =>
        dsimp only at q
        cases e1 : rn f d2 k2 0 (entry k2 vs) [] h with
        | none => rw [e1] at q; cases q
        | some r1 =>
          obtain ⟨v1, h1⟩ := r1
          rw [e1] at q
          refine ⟨v1, h1, fun hk hA hlen hok => ⟨RmD d2, ?_, rfl, rfl, ?_, ?_⟩, ih (d2 + 1) k pc2 ls (v1.toList ++ rest) h1 v0 h0 q C hd1 hd2 hret⟩
          · refine Met.ofW (cc := mC k2) (maxL := mL k2) (ret := mR k2) (m_ok hk).2.1 rfl ?_
            intro p e s m args below meth c s₁ B hml hPc
            obtain ⟨rfl, hP, hK, hD, hRM⟩ := hPc
            have hts : ∀ q ∈ wsM k2, q.before ((vs.map (val w)).toArray) s = true := atoms_spec (ws := wsM k2) B.pre
            have hown : s.vm.findClass (cnm (mO k2)) = some m.cls := by
              rw [← (m_ok hk).1]
              exact findClass_of_methodNamed B.named
            have C2 : CX p (RmD d2) s m ((vs.map (val w)).toArray) c 0 0 w A k2 := ⟨⟨B.exec, B.bytes, hml, hown, fun q hq => hts q (List.mem_cons_of_mem _ hq)⟩, hK, hRM, hz, by show 1 ≤ d2 + 1; omega, by show 60 ≤ 60 * d2 + 60; omega, Nat.le_refl _, Nat.le_refl _⟩
            rw [lg_entry_eq]
            have hlg : (lg_sl (vs.map (val w))).length ≤ mL k2 := by rw [ent_len w hz vs hA]; exact hlen
            have hl := lv_entry (vs.map (val w)) hlg
            rw [← asc_ent w hz (mL k2 - (ent vs).length) vs 0 hA] at hl
            exact ih d2 k2 0 (entry k2 vs) [] h v1 h1 e1 C2 (Nat.le_refl _) (Nat.le_refl _) (fun pc lsA H locs hf hov hw => ret_ok B.exec B.bytes B.returns B.notSynchronized hf hov hw) _ s.heap [] hl (by unfold entry; rw [List.length_append, List.length_replicate]; omega) (okL_entry hA) (fun x hx => by cases hx) ⟨hP, hD, va_S.rf, hok⟩
          · show d2 + 1 + 1 ≤ R.frames
            omega
          · show 60 * d2 + 60 + 60 ≤ R.locals
            omega
    · intro v q
      cases q
      exact ⟨rfl, rfl⟩
